/-! centre -/
def bi (w : Bool) : Int := if w = true then 1 else 0
theorem bi_t : bi true = 1 := rfl
theorem bi_f : bi false = 0 := rfl
def cmF (V : Nat → Nat → Int) (a : Nat) : Nat → Nat → Bool
  | _, 0 => true
  | b, m + 1 => decide (V a b = V b a) && cmF V a (b + 1) m
def cbF (V : Nat → Nat → Int) (n : Nat) : Nat → Int → Nat → Int
  | _, x, 0 => x
  | a, x, m + 1 => cbF V n (a + 1) (if cmF V a 0 n = true then wor x (wshl 1 (a : Int)) else x) m
theorem wor_0 {x : Int} (r : rng x) : wor x 0 = x := by
  unfold wor
  have : ii x ||| ii 0 = ii x := by
    apply b_ext
    intro i _
    rw [b_or]
    have e : ii 0 = (0 : Int32) := rfl
    rw [e, b_0]
    simp
  rw [this, ii_ti r]
section CE
variable {F A d n o : Nat} {ar : List Nat} {tb : Nat → Nat → Int} {h : HF}
theorem val2 (hk : kt A = 0 + 3) (hw : WF n ar tb) (hr : RepC h A n ar tb) (ho : o < ar.length) (h2 : ar.getD o 0 = 2) {a b : Nat} (ha : a < n) (hb : b < n) : fX0_value F A (o : Int) (a : Int) (b : Int) h = some (tb o (ix n 2 a b), h) := by
  have := value_eq (F := F) (a := (a : Int)) (b := (b : Int)) hk hw hr ho (fun _ => by omega) (fun _ => by omega)
  rw [h2] at this
  exact this
theorem mval2 (hd : d < 10) (hw : WF n ar tb) (hr : RepM h 184 185 186 187 d n ar tb) (ho : o < ar.length) (h2 : ar.getD o 0 = 2) {a b : Nat} (ha : a < n) (hb : b < n) : fX12_value F 181 (d : Int) (o : Int) (a : Int) (b : Int) h = some (tb o (ix n 2 a b), h) := by
  have := mvalue_eq (F := F) (a := (a : Int)) (b := (b : Int)) hd hw hr ho (fun _ => by omega) (fun _ => by omega)
  rw [h2] at this
  exact this
theorem cIn (hk : kt A = 0 + 3) (hw : WF n ar tb) (hr : RepC h A n ar tb) (ho : o < ar.length) (h2 : ar.getD o 0 = 2) {a : Nat} (ha : a < n) {x : Int} {k : Int → Int → Int → HF → RO} : ∀ (m b N : Nat) (w : Bool), b + m = n → m + 1 ≤ N → LX0_centreBits_18 F A (o : Int) x (a : Int) k N (bi w) (b : Int) h = k x (a : Int) (bi (w && cmF (fun a b => tb o (ix n 2 a b)) a b m)) h := by
  have hn := hw.1.2
  intro m
  induction m with
  | zero =>
    intro b N w hb hN
    obtain ⟨N, rfl⟩ : ∃ M, N = M + 1 := ⟨N - 1, by omega⟩
    rw [LX0_centreBits_18]
    simp only [zgf]
    rw [hr.1, if_neg (by omega)]
    simp [cmF]
  | succ m ih =>
    intro b N w hb hN
    obtain ⟨N, rfl⟩ : ∃ M, N = M + 1 := ⟨N - 1, by omega⟩
    rw [LX0_centreBits_18]
    simp only [zgf, zjn, zlet]
    rw [hr.1, if_pos (by omega)]
    cases w with
    | false =>
      rw [bi_f, if_pos rfl]
      simp [bi_f]
    | true =>
      rw [bi_t, if_neg (by decide), val2 hk hw hr ho h2 ha (by omega), zbd_some, val2 hk hw hr ho h2 (by omega) ha, zbd_some, wr_id ⟨by omega, by omega⟩, show ((b : Int) + 1) = ((b + 1 : Nat) : Int) by omega]
      by_cases q : tb o (ix n 2 a b) = tb o (ix n 2 b a)
      · rw [if_pos q]
        have := ih (b + 1) N true (by omega) (by omega)
        rw [bi_t] at this
        rw [this]
        simp [cmF, q]
      · rw [if_neg q]
        have := ih (b + 1) N false (by omega) (by omega)
        rw [bi_f] at this
        rw [this]
        simp [cmF, q]
theorem cOut (hk : kt A = 0 + 3) (hw : WF n ar tb) (hr : RepC h A n ar tb) (ho : o < ar.length) (h2 : ar.getD o 0 = 2) (hF : 8 ≤ F) {k : Int → HF → RO} : ∀ (m a N : Nat) (x : Int), a + m = n → m + 1 ≤ N → LX0_centreBits_4 F A (o : Int) k N x (a : Int) h = k (cbF (fun a b => tb o (ix n 2 a b)) n a x m) h := by
  have hn := hw.1.2
  intro m
  induction m with
  | zero =>
    intro a N x ha hN
    obtain ⟨N, rfl⟩ : ∃ M, N = M + 1 := ⟨N - 1, by omega⟩
    rw [LX0_centreBits_4]
    simp only [zgf]
    rw [hr.1, if_neg (by omega)]
    rfl
  | succ m ih =>
    intro a N x ha hN
    obtain ⟨N, rfl⟩ : ∃ M, N = M + 1 := ⟨N - 1, by omega⟩
    rw [LX0_centreBits_4]
    simp only [zgf, zjn, zlet]
    rw [hr.1, if_pos (by omega)]
    have := cIn (F := F) hk hw hr ho h2 (show a < n by omega) (x := x) (k := fun x64_2 x64_3 x64_4 h => if x64_4 = 0 then LX0_centreBits_4 F A (o : Int) k N x64_2 (wr (x64_3 + 1)) h else LX0_centreBits_4 F A (o : Int) k N (wor x64_2 (wshl 1 x64_3)) (wr (x64_3 + 1)) h) n 0 F true (by omega) (by omega)
    rw [bi_t] at this
    refine this.trans ?_
    rw [wr_id ⟨by omega, by omega⟩, show ((a : Int) + 1) = ((a + 1 : Nat) : Int) by omega, Bool.true_and]
    simp only [cbF]
    by_cases q : cmF (fun a b => tb o (ix n 2 a b)) a 0 n = true
    · rw [q, bi_t, if_neg (by decide), if_pos rfl, ih (a + 1) N _ (by omega) (by omega)]
    · have q' : cmF (fun a b => tb o (ix n 2 a b)) a 0 n = false := by simpa using q
      rw [q', bi_f, if_pos rfl, if_neg (by decide), ih (a + 1) N _ (by omega) (by omega)]
end CE
