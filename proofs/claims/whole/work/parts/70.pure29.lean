/-! sets closed under operations: mathematics -/
def vl (tb : Nat → Nat → Int) (n : Nat) (ar : List Nat) (o a b : Nat) : Nat := (tb o (ix n (ar.getD o 0) a b)).toNat
theorem vl_eq {n o a b : Nat} {ar : List Nat} {tb : Nat → Nat → Int} (hw : WF n ar tb) (ho : o < ar.length) (ha : a < n) (hb : b < n) : tb o (ix n (ar.getD o 0) a b) = ((vl tb n ar o a b : Nat) : Int) ∧ vl tb n ar o a b < n := by
  have h1 := hw.2.2.2 o ho (ix n (ar.getD o 0) a b) (ix_lt hw.1.1 (fun _ => ha) (fun _ => hb))
  unfold vl
  omega
theorem cval {F A n o a b : Nat} {ar : List Nat} {tb : Nat → Nat → Int} {h : HF} (hk : kt A = 0 + 3) (hw : WF n ar tb) (hr : RepC h A n ar tb) (ho : o < ar.length) (ha : a < n) (hb : b < n) : fX0_value F A (o : Int) (a : Int) (b : Int) h = some (((vl tb n ar o a b : Nat) : Int), h) := by
  rw [value_eq hk hw hr ho (fun _ => by omega) (fun _ => by omega), Int.toNat_natCast, Int.toNat_natCast, (vl_eq hw ho ha hb).1]
theorem mval {F d n o a b : Nat} {ar : List Nat} {tb : Nat → Nat → Int} {h : HF} (hd : d < 10) (hw : WF n ar tb) (hr : RepM h 184 185 186 187 d n ar tb) (ho : o < ar.length) (ha : a < n) (hb : b < n) : fX12_value F 181 (d : Int) (o : Int) (a : Int) (b : Int) h = some (((vl tb n ar o a b : Nat) : Int), h) := by
  rw [mvalue_eq hd hw hr ho (fun _ => by omega) (fun _ => by omega), Int.toNat_natCast, Int.toNat_natCast, (vl_eq hw ho ha hb).1]
/-- the number whose bits are told -/
def bts (p : Nat → Bool) : Nat → Nat
  | 0 => 0
  | m + 1 => bts p m ||| (if p m = true then 2 ^ m else 0)
theorem bts_bit {p : Nat → Bool} : ∀ (m j : Nat), (bts p m).testBit j = (decide (j < m) && p j)
  | 0, j => by simp [bts]
  | m + 1, j => by
    simp only [bts]
    rw [Nat.testBit_or, bts_bit m j]
    by_cases q : p m = true
    · rw [if_pos q, Nat.testBit_two_pow]
      by_cases z : m = j
      · subst z; simp [q]
      · have : decide (j < m + 1) = decide (j < m) := by
          by_cases y : j < m
          · rw [decide_eq_true y, decide_eq_true (by omega)]
          · rw [decide_eq_false y, decide_eq_false (by omega)]
        rw [this, decide_eq_false z, Bool.or_false]
    · rw [if_neg q, Nat.zero_testBit, Bool.or_false]
      by_cases z : m = j
      · subst z
        have q' : p m = false := by simpa using q
        simp [q']
      · have : decide (j < m + 1) = decide (j < m) := by
          by_cases y : j < m
          · rw [decide_eq_true y, decide_eq_true (by omega)]
          · rw [decide_eq_false y, decide_eq_false (by omega)]
        rw [this]
theorem bts_lt {p : Nat → Bool} : ∀ m, bts p m < 2 ^ m
  | 0 => by show 0 < 1; decide
  | m + 1 => by
    have h1 := bts_lt (p := p) m
    have h2 : 2 ^ (m + 1) = 2 * 2 ^ m := by rw [Nat.pow_succ]; omega
    have h3 : 0 < 2 ^ m := Nat.pow_pos (by decide)
    simp only [bts]
    refine Nat.or_lt_two_pow (by omega) ?_
    by_cases q : p m = true
    · rw [if_pos q]; omega
    · rw [if_neg q]; omega
theorem bit_lt {x n j : Nat} (hx : x < 2 ^ n) (hj : x.testBit j = true) : j < n := by
  by_cases q : j < n
  · exact q
  · have h1 : 2 ^ n ≤ 2 ^ j := Nat.pow_le_pow_right (by decide) (by omega)
    rw [Nat.testBit_lt_two_pow (by omega)] at hj
    exact absurd hj (by decide)
theorem bit_ext {x y : Nat} (h : ∀ j, x.testBit j = true ↔ y.testBit j = true) : x = y := by
  apply Nat.eq_of_testBit_eq
  intro j
  have := h j
  cases q : x.testBit j <;> cases q' : y.testBit j
  · rfl
  · rw [q, q'] at this; exact absurd (this.mpr rfl) (by decide)
  · rw [q, q'] at this; exact absurd (this.mp rfl) (by decide)
  · rfl
/-- whether the arguments a, b of an operation of arity r are of the set -/
def wi (r x a b : Nat) : Bool := (decide (r < 1) || x.testBit a) && (decide (r < 2) || x.testBit b)
section GR
variable {n : Nat} {ar : List Nat} {tb : Nat → Nat → Int}
def grP (tb : Nat → Nat → Int) (n : Nat) (ar : List Nat) (x j : Nat) : Prop := x.testBit j = true ∨ ∃ o a b, o < ar.length ∧ a < rwN n (ar.getD o 0) ∧ b < clN n (ar.getD o 0) ∧ wi (ar.getD o 0) x a b = true ∧ vl tb n ar o a b = j
noncomputable def grw (tb : Nat → Nat → Int) (n : Nat) (ar : List Nat) (x : Nat) : Nat := bts (fun j => @decide (grP tb n ar x j) (Classical.propDecidable _)) n
theorem rw_le {r : Nat} (hn : 1 ≤ n) : rwN n r ≤ n ∧ clN n r ≤ n := by
  unfold rwN clN
  by_cases q : r = 0
  · rw [if_pos q, if_neg (by omega)]; omega
  · rw [if_neg q]
    by_cases q2 : r = 2
    · rw [if_pos q2]; omega
    · rw [if_neg q2]; omega
theorem grw_bit (hw : WF n ar tb) {x j : Nat} (hx : x < 2 ^ n) : (grw tb n ar x).testBit j = true ↔ grP tb n ar x j := by
  unfold grw
  rw [bts_bit, Bool.and_eq_true, decide_eq_true_eq, @decide_eq_true_eq (grP tb n ar x j) (Classical.propDecidable _)]
  refine ⟨fun q => q.2, fun q => ⟨?_, q⟩⟩
  rcases q with q | ⟨o, a, b, h1, h2, h3, h4, h5⟩
  · exact bit_lt hx q
  · have hr := rw_le (n := n) (r := ar.getD o 0) hw.1.1
    have := (vl_eq hw h1 (show a < n by omega) (show b < n by omega)).2
    omega
theorem grw_lt {x : Nat} : grw tb n ar x < 2 ^ n := bts_lt n
/-- closed: nothing new -/
def clP (tb : Nat → Nat → Int) (n : Nat) (ar : List Nat) (x : Nat) : Prop := ∀ o a b, o < ar.length → a < rwN n (ar.getD o 0) → b < clN n (ar.getD o 0) → wi (ar.getD o 0) x a b = true → x.testBit (vl tb n ar o a b) = true
theorem grw_cl (hw : WF n ar tb) {x : Nat} (hx : x < 2 ^ n) : grw tb n ar x = x ↔ clP tb n ar x := by
  constructor
  · intro e o a b h1 h2 h3 h4
    rw [← e, grw_bit hw hx]
    exact Or.inr ⟨o, a, b, h1, h2, h3, h4, rfl⟩
  · intro hc
    apply bit_ext
    intro j
    rw [grw_bit hw hx]
    constructor
    · rintro (q | ⟨o, a, b, h1, h2, h3, h4, h5⟩)
      · exact q
      · rw [← h5]; exact hc o a b h1 h2 h3 h4
    · exact fun q => Or.inl q
def sbs (x y : Nat) : Prop := ∀ j, x.testBit j = true → y.testBit j = true
theorem wi_mono {r x y a b : Nat} (h : sbs x y) (q : wi r x a b = true) : wi r y a b = true := by
  unfold wi at q ⊢
  simp only [Bool.and_eq_true, Bool.or_eq_true, decide_eq_true_eq] at q ⊢
  exact ⟨q.1.imp_right (h a), q.2.imp_right (h b)⟩
theorem grw_sbs (hw : WF n ar tb) {x : Nat} (hx : x < 2 ^ n) : sbs x (grw tb n ar x) := fun j q => (grw_bit hw hx).mpr (Or.inl q)
theorem grw_in (hw : WF n ar tb) {x y : Nat} (hx : x < 2 ^ n) (h : sbs x y) (hc : clP tb n ar y) : sbs (grw tb n ar x) y := fun j q => by
  rcases (grw_bit hw hx).mp q with q | ⟨o, a, b, h1, h2, h3, h4, h5⟩
  · exact h j q
  · rw [← h5]; exact hc o a b h1 h2 h3 (wi_mono h h4)
def bc (x : Nat) : Nat → Nat
  | 0 => 0
  | m + 1 => bc x m + (if x.testBit m = true then 1 else 0)
theorem bc_le {x : Nat} : ∀ m, bc x m ≤ m
  | 0 => Nat.le_refl _
  | m + 1 => by
    have := bc_le (x := x) m
    simp only [bc]
    by_cases q : x.testBit m = true
    · rw [if_pos q]; omega
    · rw [if_neg q]; omega
theorem bc_mono {x y : Nat} (h : sbs x y) : ∀ m, bc x m ≤ bc y m ∧ ((∃ j, j < m ∧ y.testBit j = true ∧ ¬ x.testBit j = true) → bc x m < bc y m)
  | 0 => ⟨Nat.le_refl _, fun ⟨j, hj, _⟩ => absurd hj (by omega)⟩
  | m + 1 => by
    obtain ⟨i1, i2⟩ := bc_mono h m
    simp only [bc]
    by_cases qx : x.testBit m = true
    · rw [if_pos qx, if_pos (h m qx)]
      refine ⟨by omega, fun ⟨j, hj, hy, hx⟩ => ?_⟩
      have : j ≠ m := fun e => hx (e ▸ qx)
      have := i2 ⟨j, by omega, hy, hx⟩
      omega
    · rw [if_neg qx]
      by_cases qy : y.testBit m = true
      · rw [if_pos qy]; exact ⟨by omega, fun _ => by omega⟩
      · rw [if_neg qy]
        refine ⟨by omega, fun ⟨j, hj, hy, hx⟩ => ?_⟩
        have : j ≠ m := fun e => qy (e ▸ hy)
        have := i2 ⟨j, by omega, hy, hx⟩
        omega
noncomputable def itG (tb : Nat → Nat → Int) (n : Nat) (ar : List Nat) : Nat → Nat → Nat
  | 0, x => x
  | m + 1, x => itG tb n ar m (grw tb n ar x)
theorem itG_fix {x : Nat} (e : grw tb n ar x = x) : ∀ m, itG tb n ar m x = x
  | 0 => rfl
  | m + 1 => by simp only [itG]; rw [e]; exact itG_fix e m
theorem itG_cl (hw : WF n ar tb) : ∀ (m x : Nat), x < 2 ^ n → n + 1 ≤ m + bc x n → grw tb n ar (itG tb n ar m x) = itG tb n ar m x ∧ itG tb n ar m x < 2 ^ n ∧ sbs x (itG tb n ar m x) ∧ ∀ y, sbs x y → clP tb n ar y → sbs (itG tb n ar m x) y
  | 0, x, hx, hb => by
    have := bc_le (x := x) n
    omega
  | m + 1, x, hx, hb => by
    by_cases e : grw tb n ar x = x
    · rw [itG_fix e]
      exact ⟨e, hx, fun _ q => q, fun y q _ => q⟩
    · have hne : ∃ j, j < n ∧ (grw tb n ar x).testBit j = true ∧ ¬ x.testBit j = true := by
        refine Classical.byContradiction (fun hh => e ?_)
        apply bit_ext
        intro j
        refine ⟨fun q => ?_, fun q => grw_sbs hw hx j q⟩
        refine Classical.byContradiction (fun z => hh ⟨j, bit_lt grw_lt q, q, z⟩)
      have := (bc_mono (grw_sbs hw hx) n).2 hne
      simp only [itG]
      obtain ⟨a1, a2, a3, a4⟩ := itG_cl hw m (grw tb n ar x) grw_lt (by omega)
      exact ⟨a1, a2, fun j q => a3 j (grw_sbs hw hx j q), fun y q1 q2 => a4 y (grw_in hw hx q1 q2) q2⟩
end GR
