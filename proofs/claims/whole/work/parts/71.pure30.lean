/-! sets closed under operations: the loops of both sides -/
theorem one_bit {j : Nat} : (1 : Nat).testBit j = true ↔ j = 0 := by
  rw [show (1 : Nat) = 2 ^ 0 from rfl, Nat.testBit_two_pow, decide_eq_true_eq]
  omega
theorem pw_7 {n : Nat} (hn : n ≤ 7) : 2 ^ n ≤ 128 := by
  have : 2 ^ n ≤ 2 ^ 7 := Nat.pow_le_pow_right (by decide) hn
  omega
section CL
variable {F A d n : Nat} {ar : List Nat} {tb : Nat → Nat → Int} {h : HF}
theorem rowV_L {o a : Int} {f : Nat → Nat} (h0 : h A 0 = (n : Int)) (hn : n ≤ 7) (hV : ∀ b : Nat, b < n → fX0_value F A o a (b : Int) h = some (((f b : Nat) : Int), h)) (hB : ∀ b, b < n → f b < n) {cb : Nat} (hcb : cb < 2 ^ 31) {k : Int → HF → RO} : ∀ (m b N x : Nat), b + m = n → m + 1 ≤ N → x < 2 ^ n → ∃ y : Nat, LX0_rowValues_6 F A o a (cb : Int) k N (x : Int) (b : Int) h = k (y : Int) h ∧ y < 2 ^ n ∧ ∀ j, y.testBit j = true ↔ (x.testBit j = true ∨ ∃ b', b ≤ b' ∧ b' < n ∧ cb.testBit b' = true ∧ f b' = j) := by
  have h7 := pw_7 hn
  intro m
  induction m with
  | zero =>
    intro b N x hb hN hx
    obtain ⟨N, rfl⟩ : ∃ M, N = M + 1 := ⟨N - 1, by omega⟩
    rw [LX0_rowValues_6]
    simp only [zgf]
    rw [h0, if_neg (by omega)]
    refine ⟨x, rfl, hx, fun j => ⟨fun q => Or.inl q, ?_⟩⟩
    rintro (q | ⟨b', q1, q2, _⟩)
    · exact q
    · omega
  | succ m ih =>
    intro b N x hb hN hx
    obtain ⟨N, rfl⟩ : ∃ M, N = M + 1 := ⟨N - 1, by omega⟩
    rw [LX0_rowValues_6]
    simp only [zgf, zjn, zlet]
    rw [h0, if_pos (by omega), hasBit_eq hcb (by omega), zbd_some, wr_s (by omega)]
    by_cases q : cb.testBit b = true
    · have hf := hB b (by omega)
      have hp : 2 ^ f b < 2 ^ n := Nat.pow_lt_pow_right (by decide) hf
      rw [q, bi_t, if_neg (by decide), hV b (by omega), zbd_some, wshl_1 (by omega), wor_N (by omega) (by omega)]
      obtain ⟨y, e1, e2, e3⟩ := ih (b + 1) N (x ||| 2 ^ f b) (by omega) (by omega) (Nat.or_lt_two_pow hx hp)
      refine ⟨y, e1, e2, fun j => ?_⟩
      rw [e3, Nat.testBit_or, Bool.or_eq_true, Nat.testBit_two_pow, decide_eq_true_eq]
      constructor
      · rintro ((z | z) | ⟨b', z1, z2, z3, z4⟩)
        · exact Or.inl z
        · exact Or.inr ⟨b, Nat.le_refl _, by omega, q, z⟩
        · exact Or.inr ⟨b', by omega, z2, z3, z4⟩
      · rintro (z | ⟨b', z1, z2, z3, z4⟩)
        · exact Or.inl (Or.inl z)
        · by_cases w : b' = b
          · subst w; exact Or.inl (Or.inr z4)
          · exact Or.inr ⟨b', by omega, z2, z3, z4⟩
    · have q' : cb.testBit b = false := by simpa using q
      rw [q', bi_f, if_pos rfl]
      obtain ⟨y, e1, e2, e3⟩ := ih (b + 1) N x (by omega) (by omega) hx
      refine ⟨y, e1, e2, fun j => ?_⟩
      rw [e3]
      constructor
      · rintro (z | ⟨b', z1, z2, z3, z4⟩)
        · exact Or.inl z
        · exact Or.inr ⟨b', by omega, z2, z3, z4⟩
      · rintro (z | ⟨b', z1, z2, z3, z4⟩)
        · exact Or.inl z
        · have : b' ≠ b := fun e => q (e ▸ z3)
          exact Or.inr ⟨b', by omega, z2, z3, z4⟩
theorem grow2_L {o u1 : Int} {f : Nat → Nat → Nat} (h0 : h A 0 = (n : Int)) (hn : n ≤ 7) (hF : 8 ≤ F) (hV : ∀ a b : Nat, a < n → b < n → fX0_value F A o (a : Int) (b : Int) h = some (((f a b : Nat) : Int), h)) (hB : ∀ a b, a < n → b < n → f a b < n) {rb cb : Nat} (hrb : rb < 2 ^ 31) (hcb : cb < 2 ^ 31) {k : Int → Int → HF → RO} : ∀ (m a N x : Nat), a + m = n → m + 1 ≤ N → x < 2 ^ n → ∃ y : Nat, LX0_grown_48 F A u1 o (rb : Int) (cb : Int) k N (x : Int) (a : Int) h = k (y : Int) o h ∧ y < 2 ^ n ∧ ∀ j, y.testBit j = true ↔ (x.testBit j = true ∨ ∃ a' b', a ≤ a' ∧ a' < n ∧ b' < n ∧ rb.testBit a' = true ∧ cb.testBit b' = true ∧ f a' b' = j) := by
  have h7 := pw_7 hn
  intro m
  induction m with
  | zero =>
    intro a N x ha hN hx
    obtain ⟨N, rfl⟩ : ∃ M, N = M + 1 := ⟨N - 1, by omega⟩
    rw [LX0_grown_48]
    simp only [zgf]
    rw [h0, if_neg (by omega)]
    refine ⟨x, rfl, hx, fun j => ⟨fun q => Or.inl q, ?_⟩⟩
    rintro (q | ⟨a', b', q1, q2, _⟩)
    · exact q
    · omega
  | succ m ih =>
    intro a N x ha hN hx
    obtain ⟨N, rfl⟩ : ∃ M, N = M + 1 := ⟨N - 1, by omega⟩
    rw [LX0_grown_48]
    simp only [zgf, zjn, zlet]
    rw [h0, if_pos (by omega), hasBit_eq hrb (by omega), zbd_some, wr_s (by omega)]
    by_cases q : rb.testBit a = true
    · obtain ⟨z, f1, f2, f3⟩ := rowV_L (F := F) (o := o) (a := (a : Int)) (f := f a) h0 hn (fun b hb => hV a b (by omega) hb) (fun b hb => hB a b (by omega) hb) hcb (k := fun x h => some (x, h)) n 0 F 0 (by omega) (by omega) (Nat.pow_pos (by decide))
      have f1' : fX0_rowValues F A o (a : Int) (cb : Int) h = some ((z : Int), h) := f1
      rw [q, bi_t, if_neg (by decide), f1', zbd_some, wor_N (by omega) (by omega)]
      obtain ⟨y, e1, e2, e3⟩ := ih (a + 1) N (x ||| z) (by omega) (by omega) (Nat.or_lt_two_pow hx f2)
      refine ⟨y, e1, e2, fun j => ?_⟩
      rw [e3, Nat.testBit_or, Bool.or_eq_true, f3, Nat.zero_testBit]
      constructor
      · rintro ((w | w | ⟨b', w1, w2, w3, w4⟩) | ⟨a', b', w1, w2, w3, w4, w5, w6⟩)
        · exact Or.inl w
        · exact absurd w (by decide)
        · exact Or.inr ⟨a, b', Nat.le_refl _, by omega, w2, q, w3, w4⟩
        · exact Or.inr ⟨a', b', by omega, w2, w3, w4, w5, w6⟩
      · rintro (w | ⟨a', b', w1, w2, w3, w4, w5, w6⟩)
        · exact Or.inl (Or.inl w)
        · by_cases v : a' = a
          · subst v; exact Or.inl (Or.inr (Or.inr ⟨b', Nat.zero_le _, w3, w5, w6⟩))
          · exact Or.inr ⟨a', b', by omega, w2, w3, w4, w5, w6⟩
    · have q' : rb.testBit a = false := by simpa using q
      rw [q', bi_f, if_pos rfl]
      obtain ⟨y, e1, e2, e3⟩ := ih (a + 1) N x (by omega) (by omega) hx
      refine ⟨y, e1, e2, fun j => ?_⟩
      rw [e3]
      constructor
      · rintro (w | ⟨a', b', w1, w2, w3, w4, w5, w6⟩)
        · exact Or.inl w
        · exact Or.inr ⟨a', b', by omega, w2, w3, w4, w5, w6⟩
      · rintro (w | ⟨a', b', w1, w2, w3, w4, w5, w6⟩)
        · exact Or.inl w
        · have : a' ≠ a := fun e => q (e ▸ w4)
          exact Or.inr ⟨a', b', by omega, w2, w3, w4, w5, w6⟩
theorem grow1_L (hk : kt A = 0 + 3) (hw : WF n ar tb) (hr : RepC h A n ar tb) (hF : 8 ≤ F) {u : Nat} (hu : u < 2 ^ n) {k : Int → HF → RO} : ∀ (m o N x : Nat), o + m = ar.length → m + 1 ≤ N → x < 2 ^ n → ∃ y : Nat, LX0_grown_4 F A (u : Int) k N (x : Int) (o : Int) h = k (y : Int) h ∧ y < 2 ^ n ∧ ∀ j, y.testBit j = true ↔ (x.testBit j = true ∨ ∃ o' a' b', o ≤ o' ∧ o' < ar.length ∧ a' < rwN n (ar.getD o' 0) ∧ b' < clN n (ar.getD o' 0) ∧ wi (ar.getD o' 0) u a' b' = true ∧ vl tb n ar o' a' b' = j) := by
  have hn := hw.1
  have hl := hw.2.1
  have h7 := pw_7 hn.2
  obtain ⟨-, k1, -, -, -, -⟩ := zl_0 A hk
  intro m
  induction m with
  | zero =>
    intro o N x ho hN hx
    obtain ⟨N, rfl⟩ : ∃ M, N = M + 1 := ⟨N - 1, by omega⟩
    rw [LX0_grown_4]
    simp only [zgf]
    rw [hr.2.1, if_neg (by omega)]
    refine ⟨x, rfl, hx, fun j => ⟨fun q => Or.inl q, ?_⟩⟩
    rintro (q | ⟨o', a', b', q1, q2, _⟩)
    · exact q
    · omega
  | succ m ih =>
    intro o N x ho hN hx
    obtain ⟨N, rfl⟩ : ∃ M, N = M + 1 := ⟨N - 1, by omega⟩
    have hol : o < ar.length := by omega
    have h2 := hw.2.2.1 o hol
    have er : h (A + 1) o = ((ar.getD o 0 : Nat) : Int) := hr.2.2.2.1 o hol
    rw [LX0_grown_4]
    simp only [zgf, zjn, zlet]
    have erd : ∀ f : Int → RO, zrd h (A + 1) (o : Int) f = f ((ar.getD o 0 : Nat) : Int) := fun f => by rw [zrd_ok (a := A + 1) ⟨by omega, by rw [k1]; omega⟩, Int.toNat_natCast, er]
    rw [hr.2.1, if_pos (by omega)]
    simp only [erd]
    have key : ∀ (rb cb : Nat), rb < 2 ^ 31 → cb < 2 ^ 31 → (∀ a b, (a < n ∧ b < n ∧ rb.testBit a = true ∧ cb.testBit b = true) ↔ (a < rwN n (ar.getD o 0) ∧ b < clN n (ar.getD o 0) ∧ wi (ar.getD o 0) u a b = true)) → ∃ y : Nat, LX0_grown_48 F A (u : Int) (o : Int) (rb : Int) (cb : Int) (fun x85_2 x85_3 h => LX0_grown_4 F A (u : Int) k N x85_2 (wr (x85_3 + 1)) h) F (x : Int) 0 h = k (y : Int) h ∧ y < 2 ^ n ∧ ∀ j, y.testBit j = true ↔ (x.testBit j = true ∨ ∃ o' a' b', o ≤ o' ∧ o' < ar.length ∧ a' < rwN n (ar.getD o' 0) ∧ b' < clN n (ar.getD o' 0) ∧ wi (ar.getD o' 0) u a' b' = true ∧ vl tb n ar o' a' b' = j) := by
      intro rb cb hrb hcb hiff
      obtain ⟨z, f1, f2, f3⟩ := grow2_L (F := F) (u1 := (u : Int)) (o := (o : Int)) (f := vl tb n ar o) hr.1 hn.2 hF (fun a b ha hb => cval hk hw hr hol ha hb) (fun a b ha hb => (vl_eq hw hol ha hb).2) hrb hcb (k := fun x85_2 x85_3 h => LX0_grown_4 F A (u : Int) k N x85_2 (wr (x85_3 + 1)) h) n 0 F x (by omega) (by omega) hx
      obtain ⟨y, e1, e2, e3⟩ := ih (o + 1) N z (by omega) (by omega) f2
      refine ⟨y, ?_, e2, fun j => ?_⟩
      · refine f1.trans ?_
        show LX0_grown_4 F A (u : Int) k N (z : Int) (wr ((o : Int) + 1)) h = _
        rw [wr_s (by omega)]
        exact e1
      · rw [e3, f3]
        constructor
        · rintro ((w | ⟨a', b', w1, w2, w3, w4, w5, w6⟩) | ⟨o', a', b', w1, w2, w3, w4, w5, w6⟩)
          · exact Or.inl w
          · obtain ⟨v1, v2, v3⟩ := (hiff a' b').mp ⟨w2, w3, w4, w5⟩
            exact Or.inr ⟨o, a', b', Nat.le_refl _, hol, v1, v2, v3, w6⟩
          · exact Or.inr ⟨o', a', b', by omega, w2, w3, w4, w5, w6⟩
        · rintro (w | ⟨o', a', b', w1, w2, w3, w4, w5, w6⟩)
          · exact Or.inl (Or.inl w)
          · by_cases v : o' = o
            · subst v
              obtain ⟨v1, v2, v3, v4⟩ := (hiff a' b').mpr ⟨w3, w4, w5⟩
              exact Or.inl (Or.inr ⟨a', b', Nat.zero_le _, v1, v2, v3, v4, w6⟩)
            · exact Or.inr ⟨o', a', b', by omega, w2, w3, w4, w5, w6⟩
    generalize hrr : ar.getD o 0 = r at h2 er key
    by_cases q0 : r = 0
    · subst q0
      rw [if_pos (by decide), if_neg (by decide)]
      refine key 1 1 (by decide) (by decide) (fun a b => ?_)
      rw [one_bit, one_bit]
      unfold rwN clN wi
      simp
      omega
    · by_cases q1 : r = 1
      · subst q1
        rw [if_neg (by decide), if_neg (by decide)]
        refine key u 1 (by omega) (by decide) (fun a b => ?_)
        have e1 : wi 1 u a b = u.testBit a := by unfold wi; simp
        rw [one_bit, e1, show rwN n 1 = n from rfl, show clN n 1 = 1 from rfl]
        exact ⟨fun ⟨w1, w2, w3, w4⟩ => ⟨w1, by omega, w3⟩, fun ⟨w1, w2, w3⟩ => ⟨w1, by omega, w3, by omega⟩⟩
      · obtain rfl : r = 2 := by omega
        rw [if_neg (by decide), if_pos (by decide)]
        refine key u u (by omega) (by omega) (fun a b => ?_)
        unfold rwN clN wi
        simp
theorem grown_eq (hk : kt A = 0 + 3) (hw : WF n ar tb) (hr : RepC h A n ar tb) (hF : 8 ≤ F) {x : Nat} (hx : x < 2 ^ n) : fX0_grown F A (x : Int) h = some (((grw tb n ar x : Nat) : Int), h) := by
  have hl := hw.2.1
  obtain ⟨y, e1, e2, e3⟩ := grow1_L (F := F) hk hw hr hF hx (k := fun x h => some (x, h)) ar.length 0 F x (by omega) (by omega) hx
  have : y = grw tb n ar x := by
    apply bit_ext
    intro j
    rw [e3, grw_bit hw hx]
    unfold grP
    constructor
    · rintro (w | ⟨o', a', b', w1, w2, w3, w4, w5, w6⟩)
      · exact Or.inl w
      · exact Or.inr ⟨o', a', b', w2, w3, w4, w5, w6⟩
    · rintro (w | ⟨o', a', b', w2, w3, w4, w5, w6⟩)
      · exact Or.inl w
      · exact Or.inr ⟨o', a', b', Nat.zero_le _, w2, w3, w4, w5, w6⟩
  rw [← this]
  exact e1
theorem closure_L (hk : kt A = 0 + 3) (hw : WF n ar tb) (hr : RepC h A n ar tb) (hF : 8 ≤ F) {k : Int → HF → RO} : ∀ (m i N x : Nat), i + m = n + 1 → m + 1 ≤ N → x < 2 ^ n → LX0_closure_4 F A k N (x : Int) (i : Int) h = k ((itG tb n ar m x : Nat) : Int) h := by
  have hn := hw.1.2
  intro m
  induction m with
  | zero =>
    intro i N x hi hN hx
    obtain ⟨N, rfl⟩ : ∃ M, N = M + 1 := ⟨N - 1, by omega⟩
    rw [LX0_closure_4]
    simp only [zgf]
    rw [hr.1, if_pos (by omega)]
    rfl
  | succ m ih =>
    intro i N x hi hN hx
    obtain ⟨N, rfl⟩ : ∃ M, N = M + 1 := ⟨N - 1, by omega⟩
    rw [LX0_closure_4]
    simp only [zgf, zlet]
    rw [hr.1, if_neg (by omega), grown_eq hk hw hr hF hx, zbd_some, wr_s (by omega), ih (i + 1) N _ (by omega) (by omega) grw_lt]
    rfl
end CL
