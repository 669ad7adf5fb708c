/-! Algebras: n the size, ar the arities, tb o k the cell k of operation o. RepC: how the class holds one (object A); RepM: how the reference does (rows cs sizes, co operations, ca arities, cc cells; number d) -/
def pw (n r : Nat) : Nat := if r = 0 then 1 else if r = 1 then n else n * n
def ix (n r a b : Nat) : Nat := if r = 0 then 0 else if r = 1 then a else a * n + b
def sto (n : Nat) (ar : List Nat) : Nat → Nat
  | 0 => 0
  | o + 1 => sto n ar o + pw n (ar.getD o 0)
def cod : List Nat → Nat
  | [] => 0
  | r :: l => (r + 1) + 10 * cod l
def WF (n : Nat) (ar : List Nat) (tb : Nat → Nat → Int) : Prop := (1 ≤ n ∧ n ≤ 7) ∧ ar.length ≤ 4 ∧ (∀ o, o < ar.length → ar.getD o 0 ≤ 2) ∧ ∀ o, o < ar.length → ∀ k, k < pw n (ar.getD o 0) → 0 ≤ tb o k ∧ tb o k < (n : Int)
def RepC (h : HF) (A n : Nat) (ar : List Nat) (tb : Nat → Nat → Int) : Prop := h A 0 = (n : Int) ∧ h A 1 = (ar.length : Int) ∧ h A 2 = (cod ar : Int) ∧ (∀ o, o < ar.length → h (A + 1) o = ((ar.getD o 0 : Nat) : Int)) ∧ (∀ o, o ≤ ar.length → h (A + 2) o = ((sto n ar o : Nat) : Int)) ∧ ∀ o, o < ar.length → ∀ k, k < pw n (ar.getD o 0) → h (A + 3) (sto n ar o + k) = tb o k
def RepM (h : HF) (cs co ca cc d n : Nat) (ar : List Nat) (tb : Nat → Nat → Int) : Prop := h cs d = (n : Int) ∧ h co d = (ar.length : Int) ∧ (∀ o, o < ar.length → h ca (4 * d + o) = ((ar.getD o 0 : Nat) : Int)) ∧ ∀ o, o < ar.length → ∀ k, k < pw n (ar.getD o 0) → h cc (196 * d + 49 * o + k) = tb o k
theorem so_eq {x y : Int} {h : HF} (e : x = y) : (some (x, h) : RO) = some (y, h) := by rw [e]
theorem pw_le {n r : Nat} (hn : n ≤ 7) (hr : r ≤ 2) : pw n r ≤ 49 := by
  unfold pw
  have := Nat.mul_le_mul hn hn
  split
  · omega
  · split <;> omega
theorem sto_le {n : Nat} {ar : List Nat} (hn : n ≤ 7) (hr : ∀ o, o < ar.length → ar.getD o 0 ≤ 2) : ∀ o, o ≤ ar.length → sto n ar o ≤ 49 * o
  | 0, _ => by simp [sto]
  | o + 1, h => by
    have h1 := sto_le hn hr o (by omega)
    have h2 := pw_le hn (hr o (by omega))
    simp only [sto]
    omega
theorem ix_lt {n r a b : Nat} (h0 : 1 ≤ n) (ha : 1 ≤ r → a < n) (hb : 2 ≤ r → b < n) : ix n r a b < pw n r := by
  unfold ix pw
  by_cases q0 : r = 0
  · rw [if_pos q0, if_pos q0]; omega
  · rw [if_neg q0, if_neg q0]
    by_cases q1 : r = 1
    · rw [if_pos q1, if_pos q1]; exact ha (by omega)
    · rw [if_neg q1, if_neg q1]
      have h1 := ha (by omega)
      have h2 := hb (by omega)
      have h3 : (a + 1) * n ≤ n * n := Nat.mul_le_mul_right n (by omega)
      rw [Nat.add_mul] at h3
      omega
theorem spot_eq {F A n o : Nat} {ar : List Nat} {tb : Nat → Nat → Int} {h : HF} {a b : Int} (hk : kt A = 0 + 3) (hw : WF n ar tb) (hr : RepC h A n ar tb) (ho : o < ar.length) (ha : 1 ≤ ar.getD o 0 → 0 ≤ a ∧ a < (n : Int)) (hb : 2 ≤ ar.getD o 0 → 0 ≤ b ∧ b < (n : Int)) : fX0_spot F A (o : Int) a b h = some (((sto n ar o + ix n (ar.getD o 0) a.toNat b.toNat : Nat) : Int), h) := by
  obtain ⟨-, k1, -, k2, -, k3⟩ := zl_0 A hk
  obtain ⟨hn, hl, h2, -⟩ := hw
  obtain ⟨e0, e1, e2, e3, e4, e5⟩ := hr
  have hs := sto_le hn.2 h2 o (by omega)
  unfold fX0_spot
  rw [zrd_ok (a := A + 1) ⟨by omega, by rw [k1]; omega⟩, Int.toNat_natCast, e3 o ho]
  generalize hrr : ar.getD o 0 = r at ha hb ⊢
  have hr2 : r ≤ 2 := by rw [← hrr]; exact h2 o ho
  unfold ix
  by_cases q0 : r = 0
  · rw [if_pos (by omega), if_pos q0, zrd_ok (a := A + 2) ⟨by omega, by rw [k2]; omega⟩, Int.toNat_natCast, e4 o (by omega)]
    simp
  · rw [if_neg (by omega), if_neg q0]
    by_cases q1 : r = 1
    · have h1 := ha (by omega)
      rw [if_pos (by omega), if_pos q1, zrd_ok (a := A + 2) ⟨by omega, by rw [k2]; omega⟩, Int.toNat_natCast, e4 o (by omega), wr_id ⟨by omega, by omega⟩]
      exact so_eq (by omega)
    · have h1 := ha (by omega)
      have h3 := hb (by omega)
      have e6 : a * (n : Int) = ((a.toNat * n : Nat) : Int) := by rw [Int.natCast_mul, Int.toNat_of_nonneg h1.1]
      have h5 : a.toNat * n ≤ 7 * 7 := Nat.mul_le_mul (by omega) hn.2
      rw [if_neg (by omega), if_neg q1, zrd_ok (a := A + 2) ⟨by omega, by rw [k2]; omega⟩, Int.toNat_natCast, e4 o (by omega)]
      simp only [zgf]
      rw [e0, e6, wr_id (x := ((a.toNat * n : Nat) : Int)) ⟨by omega, by omega⟩, wr_id (x := ((sto n ar o : Nat) : Int) + ((a.toNat * n : Nat) : Int)) ⟨by omega, by omega⟩, wr_id ⟨by omega, by omega⟩]
      exact so_eq (by omega)
theorem value_eq {F A n o : Nat} {ar : List Nat} {tb : Nat → Nat → Int} {h : HF} {a b : Int} (hk : kt A = 0 + 3) (hw : WF n ar tb) (hr : RepC h A n ar tb) (ho : o < ar.length) (ha : 1 ≤ ar.getD o 0 → 0 ≤ a ∧ a < (n : Int)) (hb : 2 ≤ ar.getD o 0 → 0 ≤ b ∧ b < (n : Int)) : fX0_value F A (o : Int) a b h = some (tb o (ix n (ar.getD o 0) a.toNat b.toNat), h) := by
  have hi : ix n (ar.getD o 0) a.toNat b.toNat < pw n (ar.getD o 0) := ix_lt hw.1.1 (fun q => by have := ha q; omega) (fun q => by have := hb q; omega)
  have h1 := sto_le hw.1.2 hw.2.2.1 o (by omega)
  have h2 := pw_le hw.1.2 (hw.2.2.1 o ho)
  have h3 := hw.2.1
  obtain ⟨-, -, -, -, -, k3⟩ := zl_0 A hk
  unfold fX0_value
  rw [spot_eq hk hw hr ho ha hb, zbd_some, zrd_ok (a := A + 3) ⟨by omega, by rw [k3]; omega⟩, Int.toNat_natCast, hr.2.2.2.2.2 o ho _ hi]
theorem marity_eq {F d n o : Nat} {ar : List Nat} {tb : Nat → Nat → Int} {h : HF} (hd : d < 10) (hw : WF n ar tb) (hr : RepM h 184 185 186 187 d n ar tb) (ho : o < ar.length) : fX12_arity F 181 (d : Int) (o : Int) h = some (((ar.getD o 0 : Nat) : Int), h) := by
  have h3 := hw.2.1
  unfold fX12_arity
  rw [wr_id (x := 4 * (d : Int)) ⟨by omega, by omega⟩, wr_id ⟨by omega, by omega⟩, zrd_ok (a := 181 + 5) ⟨by omega, by show _ < ((40 : Nat) : Int); omega⟩, show (4 * (d : Int) + (o : Int)).toNat = 4 * d + o by omega, show h (181 + 5) (4 * d + o) = _ from hr.2.2.1 o ho]
theorem mat_eq {F d n o : Nat} {ar : List Nat} {tb : Nat → Nat → Int} {h : HF} {a b : Int} (hd : d < 10) (hw : WF n ar tb) (hr : RepM h 184 185 186 187 d n ar tb) (ho : o < ar.length) (ha : 1 ≤ ar.getD o 0 → 0 ≤ a ∧ a < (n : Int)) (hb : 2 ≤ ar.getD o 0 → 0 ≤ b ∧ b < (n : Int)) : fX12_at F 181 (d : Int) (o : Int) a b h = some (((196 * d + 49 * o + ix n (ar.getD o 0) a.toNat b.toNat : Nat) : Int), h) := by
  have hl := hw.2.1
  have h2 := hw.2.2.1 o ho
  have hn := hw.1
  have ma := marity_eq (F := F) hd hw hr ho
  unfold fX12_at
  simp only [zjn]
  rw [ma, zbd_some]
  generalize ar.getD o 0 = r at ha hb h2 ma ⊢
  rw [wr_id (x := 196 * (d : Int)) ⟨by omega, by omega⟩, wr_id (x := 49 * (o : Int)) ⟨by omega, by omega⟩, wr_id (x := 196 * (d : Int) + 49 * (o : Int)) ⟨by omega, by omega⟩]
  unfold ix
  by_cases q0 : r = 0
  · rw [if_pos (by omega), if_pos q0, wr_id ⟨by omega, by omega⟩]
    rfl
  · rw [if_neg (by omega), if_neg q0, ma, zbd_some]
    by_cases q1 : r = 1
    · have h1 := ha (by omega)
      rw [if_pos (by omega), if_pos q1, wr_id ⟨by omega, by omega⟩]
      exact so_eq (by omega)
    · have h1 := ha (by omega)
      have h3 := hb (by omega)
      have e6 : a * (n : Int) = ((a.toNat * n : Nat) : Int) := by rw [Int.natCast_mul, Int.toNat_of_nonneg h1.1]
      have h5 : a.toNat * n ≤ 7 * 7 := Nat.mul_le_mul (by omega) hn.2
      rw [if_neg (by omega), if_neg q1, zrd_ok (a := 181 + 3) ⟨by omega, by show _ < ((10 : Nat) : Int); omega⟩, Int.toNat_natCast, show h (181 + 3) d = (n : Int) from hr.1, e6, wr_id (x := ((a.toNat * n : Nat) : Int)) ⟨by omega, by omega⟩, wr_id (x := ((a.toNat * n : Nat) : Int) + b) ⟨by omega, by omega⟩, wr_id ⟨by omega, by omega⟩]
      exact so_eq (by omega)
theorem mvalue_eq {F d n o : Nat} {ar : List Nat} {tb : Nat → Nat → Int} {h : HF} {a b : Int} (hd : d < 10) (hw : WF n ar tb) (hr : RepM h 184 185 186 187 d n ar tb) (ho : o < ar.length) (ha : 1 ≤ ar.getD o 0 → 0 ≤ a ∧ a < (n : Int)) (hb : 2 ≤ ar.getD o 0 → 0 ≤ b ∧ b < (n : Int)) : fX12_value F 181 (d : Int) (o : Int) a b h = some (tb o (ix n (ar.getD o 0) a.toNat b.toNat), h) := by
  have hi : ix n (ar.getD o 0) a.toNat b.toNat < pw n (ar.getD o 0) := ix_lt hw.1.1 (fun q => by have := ha q; omega) (fun q => by have := hb q; omega)
  have h2 := pw_le hw.1.2 (hw.2.2.1 o ho)
  have h3 := hw.2.1
  unfold fX12_value
  rw [mat_eq hd hw hr ho ha hb, zbd_some, zrd_ok (a := 181 + 6) ⟨by omega, by show _ < ((1960 : Nat) : Int); omega⟩, Int.toNat_natCast, show h (181 + 6) _ = _ from hr.2.2.2 o ho _ hi]
