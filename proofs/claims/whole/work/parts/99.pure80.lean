/-! maps: lists over ranges; bits -/
def flF {α : Type} (f : Nat → List α) : Nat → Nat → List α
  | 0, _ => []
  | m + 1, v => f v ++ flF f m (v + 1)
theorem flF_s {α : Type} {f : Nat → List α} {m v : Nat} : flF f (m + 1) v = f v ++ flF f m (v + 1) := rfl
theorem flF_snoc {α : Type} {f : Nat → List α} : ∀ (m v : Nat), flF f (m + 1) v = flF f m v ++ f (v + m)
  | 0, v => by simp [flF]
  | m + 1, v => by
    rw [flF_s, flF_snoc m (v + 1), flF_s (m := m), List.append_assoc, show v + 1 + m = v + (m + 1) by omega]
theorem mem_flF {α : Type} {f : Nat → List α} {x : α} : ∀ (m v : Nat), x ∈ flF f m v ↔ ∃ j, v ≤ j ∧ j < v + m ∧ x ∈ f j
  | 0, v => ⟨fun h => absurd h (by simp [flF]), fun ⟨j, h1, h2, _⟩ => absurd h1 (by omega)⟩
  | m + 1, v => by
    rw [flF_s, List.mem_append, mem_flF m (v + 1)]
    constructor
    · rintro (h | ⟨j, h1, h2, h3⟩)
      · exact ⟨v, Nat.le_refl _, by omega, h⟩
      · exact ⟨j, by omega, by omega, h3⟩
    · rintro ⟨j, h1, h2, h3⟩
      by_cases q : j = v
      · subst q; exact Or.inl h3
      · exact Or.inr ⟨j, by omega, by omega, h3⟩
theorem flF_congr {α : Type} {f g : Nat → List α} : ∀ (m v : Nat), (∀ j, v ≤ j → j < v + m → f j = g j) → flF f m v = flF g m v
  | 0, _, _ => rfl
  | m + 1, v, h => by rw [flF_s, flF_s, h v (Nat.le_refl _) (by omega), flF_congr m (v + 1) (fun j h1 h2 => h j (by omega) (by omega))]
theorem flF_nil {α : Type} {f : Nat → List α} : ∀ (m v : Nat), (∀ j, v ≤ j → j < v + m → f j = []) → flF f m v = []
  | 0, _, _ => rfl
  | m + 1, v, h => by rw [flF_s, h v (Nat.le_refl _) (by omega), flF_nil m (v + 1) (fun j h1 h2 => h j (by omega) (by omega))]; rfl
def sumF (f : Nat → Nat) : Nat → Nat → Nat
  | 0, _ => 0
  | m + 1, v => f v + sumF f m (v + 1)
theorem sumF_s {f : Nat → Nat} {m v : Nat} : sumF f (m + 1) v = f v + sumF f m (v + 1) := rfl
theorem flF_len {α : Type} {f : Nat → List α} : ∀ (m v : Nat), (flF f m v).length = sumF (fun j => (f j).length) m v
  | 0, _ => rfl
  | m + 1, v => by rw [flF_s, List.length_append, flF_len m (v + 1), sumF_s]
theorem sumF_add {f g : Nat → Nat} : ∀ (m v : Nat), sumF (fun j => f j + g j) m v = sumF f m v + sumF g m v
  | 0, _ => rfl
  | m + 1, v => by rw [sumF_s, sumF_s, sumF_s, sumF_add m (v + 1)]; omega
theorem sumF_zero : ∀ (m v : Nat), sumF (fun _ => 0) m v = 0
  | 0, _ => rfl
  | m + 1, v => by rw [sumF_s, sumF_zero m (v + 1)]
theorem sumF_comm {f : Nat → Nat → Nat} {k w : Nat} : ∀ (m v : Nat), sumF (fun i => sumF (fun j => f i j) k w) m v = sumF (fun j => sumF (fun i => f i j) m v) k w
  | 0, v => (sumF_zero k w).symm
  | m + 1, v => by
    rw [sumF_s, sumF_comm m (v + 1), ← sumF_add]
    rfl
theorem sumF_le {f g : Nat → Nat} : ∀ (m v : Nat), (∀ j, v ≤ j → j < v + m → f j ≤ g j) → sumF f m v ≤ sumF g m v
  | 0, _, _ => Nat.le_refl _
  | m + 1, v, h => by
    have h1 := h v (Nat.le_refl _) (by omega)
    have h2 := sumF_le m (v + 1) (fun j h1 h2 => h j (by omega) (by omega))
    rw [sumF_s, sumF_s]; omega
theorem sumF_congr {f g : Nat → Nat} : ∀ (m v : Nat), (∀ j, v ≤ j → j < v + m → f j = g j) → sumF f m v = sumF g m v
  | 0, _, _ => rfl
  | m + 1, v, h => by rw [sumF_s, sumF_s, h v (Nat.le_refl _) (by omega), sumF_congr m (v + 1) (fun j h1 h2 => h j (by omega) (by omega))]
theorem sumF_const {c : Nat} : ∀ (m v : Nat), sumF (fun _ => c) m v = m * c
  | 0, _ => (Nat.zero_mul c).symm
  | m + 1, v => by rw [sumF_s, sumF_const m (v + 1), Nat.add_mul]; omega
theorem sumF_one {x : Nat} : ∀ (m v : Nat), sumF (fun e => if x = e then 1 else 0) m v ≤ 1 ∧ (x < v → sumF (fun e => if x = e then 1 else 0) m v = 0)
  | 0, _ => ⟨by show 0 ≤ 1; omega, fun _ => rfl⟩
  | m + 1, v => by
    obtain ⟨i1, i2⟩ := sumF_one (x := x) m (v + 1)
    rw [sumF_s]
    by_cases q : x = v
    · rw [if_pos q, i2 (by omega)]; exact ⟨by omega, fun z => absurd z (by omega)⟩
    · rw [if_neg q]; exact ⟨by omega, fun z => by rw [i2 (by omega)]⟩
/-- the elements of a line, as bits -/
def usB (l : List Nat) : Nat := bts (fun j => decide (j ∈ l)) 7
theorem us_bit {l : List Nat} {j : Nat} : (usB l).testBit j = true ↔ (j < 7 ∧ j ∈ l) := by
  unfold usB
  rw [bts_bit, Bool.and_eq_true, decide_eq_true_eq, decide_eq_true_eq]
theorem us_lt (l : List Nat) : usB l < 128 := bts_lt 7
theorem us_snoc {l : List Nat} {v : Nat} (hv : v < 7) : usB (l ++ [v]) = usB l ||| 2 ^ v := by
  apply bit_ext
  intro j
  rw [us_bit, Nat.testBit_or, Bool.or_eq_true, us_bit, Nat.testBit_two_pow, decide_eq_true_eq, List.mem_append, List.mem_singleton]
  constructor
  · rintro ⟨h1, h2 | h2⟩
    · exact Or.inl ⟨h1, h2⟩
    · exact Or.inr h2.symm
  · rintro (⟨h1, h2⟩ | h)
    · exact ⟨h1, Or.inl h2⟩
    · exact ⟨by omega, Or.inr h.symm⟩
theorem us_same {l : List Nat} {v : Nat} (hv : v < 7) : usB l ||| 2 ^ v = usB l ↔ v ∈ l := by
  rw [← us_snoc hv]
  constructor
  · intro h
    have : (usB (l ++ [v])).testBit v = true := us_bit.mpr ⟨hv, by simp⟩
    rw [h] at this
    exact (us_bit.mp this).2
  · intro h
    apply bit_ext
    intro j
    rw [us_bit, us_bit, List.mem_append, List.mem_singleton]
    constructor
    · rintro ⟨h1, h2 | h2⟩
      · exact ⟨h1, h2⟩
      · exact ⟨h1, h2 ▸ h⟩
    · exact fun ⟨h1, h2⟩ => ⟨h1, Or.inl h2⟩
def bcI (x : Int) : Int :=
  let x1 := wr (x - (wand (wushr x 1) 1431655765))
  let x2 := wr ((wand x1 858993459) + (wand (wushr x1 2) 858993459))
  let x3 := wand (wr (x2 + (wushr x2 4))) 252645135
  let x4 := wr (x3 + (wushr x3 8))
  let x5 := wr (x4 + (wushr x4 16))
  wand x5 63
theorem bcI_eq : ∀ x : Nat, x < 128 → bcI (x : Int) = (bc x 7 : Int) := by decide +kernel
theorem bitCount_eq {F x : Nat} {h : HF} (hx : x < 128) : fJ6_bitCount_0f7a4 F (x : Int) h = some ((bc x 7 : Int), h) := by
  rw [← bcI_eq x hx]
  rfl
theorem bc_or : ∀ x, x < 128 → ∀ v, v < 7 → bc (x ||| 2 ^ v) 7 ≤ bc x 7 + 1 := by decide +kernel
theorem bc_full : ∀ n, n < 8 → bc (2 ^ n - 1) 7 = n := by decide +kernel
theorem bc_all : ∀ n, n < 8 → ∀ x, x < 2 ^ n → n ≤ bc x 7 → x = 2 ^ n - 1 := by decide +kernel
