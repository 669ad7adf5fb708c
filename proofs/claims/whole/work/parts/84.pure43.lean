/-! congruences: no clash is agreement; codes of lines; the rows that both sides go through -/
def cgP (tb : Nat → Nat → Int) (n : Nat) (ar : List Nat) (l : List Nat) : Prop := ∀ o a b, o < ar.length → a < rwN n (ar.getD o 0) → b < clN n (ar.getD o 0) → l.getD (vl tb n ar o a b) 0 = l.getD (vl tb n ar o (if 0 < ar.getD o 0 then l.getD a 0 else 0) (if 1 < ar.getD o 0 then l.getD b 0 else 0)) 0
section CN
variable {n : Nat} {ar : List Nat} {tb : Nat → Nat → Int} {l : List Nat}
theorem agB_iff : agB tb n ar l = true ↔ cgP tb n ar l := by
  unfold agB cgP
  rw [alB_iff]
  constructor
  · intro q o a b h1 h2 h3
    have := q o (Nat.zero_le _) (by omega)
    rw [alB_iff] at this
    have := this a (Nat.zero_le _) (by omega)
    rw [alB_iff] at this
    simpa using this b (Nat.zero_le _) (by omega)
  · intro q o _ h1
    rw [alB_iff]
    intro a _ h2
    rw [alB_iff]
    intro b _ h3
    rw [decide_eq_true_eq]
    exact q o a b (by omega) (by omega) (by omega)
theorem clo3_none {o e d : Nat} : ∀ (m b : Nat), clo3 tb n ar l o e d b m = none ↔ ∀ b', b ≤ b' → b' < b + m → l.getD (vl tb n ar o e b') 0 = l.getD (vl tb n ar o d b') 0 ∧ (ar.getD o 0 = 2 → l.getD (vl tb n ar o b' e) 0 = l.getD (vl tb n ar o b' d) 0)
  | 0, b => ⟨fun _ b' h1 h2 => absurd h2 (by omega), fun _ => rfl⟩
  | m + 1, b => by
    have ih := clo3_none (o := o) (e := e) (d := d) m (b + 1)
    simp only [clo3]
    by_cases q1 : l.getD (vl tb n ar o e b) 0 = l.getD (vl tb n ar o d b) 0
    · rw [if_pos q1]
      by_cases q2 : ar.getD o 0 = 2
      · rw [if_pos q2]
        by_cases q3 : l.getD (vl tb n ar o b e) 0 = l.getD (vl tb n ar o b d) 0
        · rw [if_pos q3, ih]
          refine ⟨fun hh b' h1 h2 => ?_, fun hh b' h1 h2 => hh b' (by omega) (by omega)⟩
          by_cases z : b' = b
          · subst z; exact ⟨q1, fun _ => q3⟩
          · exact hh b' (by omega) (by omega)
        · rw [if_neg q3]
          exact ⟨fun z => absurd z (by simp), fun hh => absurd ((hh b (Nat.le_refl _) (by omega)).2 q2) q3⟩
      · rw [if_neg q2, ih]
        refine ⟨fun hh b' h1 h2 => ?_, fun hh b' h1 h2 => hh b' (by omega) (by omega)⟩
        by_cases z : b' = b
        · subst z; exact ⟨q1, fun z => absurd z q2⟩
        · exact hh b' (by omega) (by omega)
    · rw [if_neg q1]
      exact ⟨fun z => absurd z (by simp), fun hh => absurd (hh b (Nat.le_refl _) (by omega)).1 q1⟩
theorem clo2_none {e : Nat} : ∀ (m o : Nat), clo2 tb n ar l e o m = none ↔ ∀ o', o ≤ o' → o' < o + m → clo3 tb n ar l o' e (l.getD e 0) 0 (clN n (ar.getD o' 0)) = none
  | 0, o => ⟨fun _ b' h1 h2 => absurd h2 (by omega), fun _ => rfl⟩
  | m + 1, o => by
    have ih := clo2_none (e := e) m (o + 1)
    simp only [clo2]
    cases q : clo3 tb n ar l o e (l.getD e 0) 0 (clN n (ar.getD o 0)) with
    | none =>
      show clo2 tb n ar l e (o + 1) m = none ↔ _
      rw [ih]
      refine ⟨fun hh b' h1 h2 => ?_, fun hh b' h1 h2 => hh b' (by omega) (by omega)⟩
      by_cases z : b' = o
      · subst z; exact q
      · exact hh b' (by omega) (by omega)
    | some p =>
      exact ⟨fun z => absurd z (by simp), fun hh => absurd (hh o (Nat.le_refl _) (by omega)) (by rw [q]; simp)⟩
theorem clo1_none : ∀ (m e : Nat), clo1 tb n ar l e m = none ↔ ∀ e', e ≤ e' → e' < e + m → l.getD e' 0 ≠ e' → clo2 tb n ar l e' 0 ar.length = none
  | 0, e => ⟨fun _ b' h1 h2 => absurd h2 (by omega), fun _ => rfl⟩
  | m + 1, e => by
    have ih := clo1_none m (e + 1)
    simp only [clo1]
    by_cases q : l.getD e 0 = e
    · rw [if_pos q, ih]
      refine ⟨fun hh b' h1 h2 h3 => ?_, fun hh b' h1 h2 => hh b' (by omega) (by omega)⟩
      by_cases z : b' = e
      · subst z; exact absurd q h3
      · exact hh b' (by omega) (by omega) h3
    · rw [if_neg q]
      cases q2 : clo2 tb n ar l e 0 ar.length with
      | none =>
        show clo1 tb n ar l (e + 1) m = none ↔ _
        rw [ih]
        refine ⟨fun hh b' h1 h2 h3 => ?_, fun hh b' h1 h2 => hh b' (by omega) (by omega)⟩
        by_cases z : b' = e
        · subst z; exact q2
        · exact hh b' (by omega) (by omega) h3
      | some p =>
        exact ⟨fun z => absurd z (by simp), fun hh => absurd (hh e (Nat.le_refl _) (by omega) q) (by rw [q2]; simp)⟩
theorem ln_idem (hl : lnB n l = true) {a : Nat} (ha : a < n) : l.getD (l.getD a 0) 0 = l.getD a 0 := by
  have := alB_iff.mp hl a (Nat.zero_le _) (by omega)
  simp only [Bool.and_eq_true, decide_eq_true_eq] at this
  exact this.2
/-- a line without a clash is one that agrees -/
theorem clash_ag (hw : WF n ar tb) (hB : BD l) (hl : lnB n l = true) : clo1 tb n ar l 1 (n - 1) = none ↔ agB tb n ar l = true := by
  have hn := hw.1
  rw [agB_iff, clo1_none]
  constructor
  · intro hh
    have P : ∀ e, e < n → ∀ o, o < ar.length → ∀ b, b < clN n (ar.getD o 0) → l.getD (vl tb n ar o e b) 0 = l.getD (vl tb n ar o (l.getD e 0) b) 0 ∧ (ar.getD o 0 = 2 → l.getD (vl tb n ar o b e) 0 = l.getD (vl tb n ar o b (l.getD e 0)) 0) := by
      intro e he o ho b hb
      by_cases q : l.getD e 0 = e
      · rw [q]; exact ⟨rfl, fun _ => rfl⟩
      · have hbe := hB e
        have := (clo2_none ar.length 0).mp (hh e (by omega) (by omega) q) o (Nat.zero_le _) (by omega)
        exact (clo3_none _ 0).mp this b (Nat.zero_le _) (by omega)
    intro o a b ho ha hb
    have h2 := hw.2.2.1 o ho
    have hle := rw_le (n := n) (r := ar.getD o 0) hn.1
    have hrc : ar.getD o 0 = 0 ∨ ar.getD o 0 = 1 ∨ ar.getD o 0 = 2 := by omega
    have hba := hB a
    rcases hrc with e | e | e
    · rw [vl_congr (a := a) (b := b) (a' := if 0 < ar.getD o 0 then l.getD a 0 else 0) (b' := if 1 < ar.getD o 0 then l.getD b 0 else 0) (fun z => absurd z (by omega)) (fun z => absurd z (by omega))]
    · rw [if_pos (by omega), if_neg (by omega), (P a (by omega) o ho b hb).1]
      rw [vl_congr (a := l.getD a 0) (b := b) (a' := l.getD a 0) (b' := 0) (fun _ => rfl) (fun z => absurd z (by omega))]
    · have hcl : clN n (ar.getD o 0) = n := by unfold clN; rw [if_pos e]
      rw [if_pos (by omega), if_pos (by omega), (P a (by omega) o ho b hb).1]
      exact (P b (by omega) o ho (l.getD a 0) (by omega)).2 e
  · intro hc e he1 he2 hne
    have hbe := hB e
    have hid := ln_idem hl (show e < n by omega)
    rw [clo2_none]
    intro o _ ho
    rw [clo3_none]
    intro b _ hb
    have h2 := hw.2.2.1 o (by omega)
    have hrc : ar.getD o 0 = 0 ∨ ar.getD o 0 = 1 ∨ ar.getD o 0 = 2 := by omega
    rcases hrc with r | r | r
    · refine ⟨?_, fun z => absurd z (by omega)⟩
      rw [vl_congr (a := e) (b := b) (a' := l.getD e 0) (b' := b) (fun z => absurd z (by omega)) (fun _ => rfl)]
    · refine ⟨?_, fun z => absurd z (by omega)⟩
      have hrw : rwN n (ar.getD o 0) = n := by unfold rwN; rw [if_neg (by omega)]
      have := hc o e b (by omega) (by omega) (by omega)
      rw [if_pos (by omega), if_neg (by omega)] at this
      rw [this]
      rw [vl_congr (a := l.getD e 0) (b := 0) (a' := l.getD e 0) (b' := b) (fun _ => rfl) (fun z => absurd z (by omega))]
    · have hrw : rwN n (ar.getD o 0) = n := by unfold rwN; rw [if_neg (by omega)]
      have hcl : clN n (ar.getD o 0) = n := by unfold clN; rw [if_pos r]
      have hbb := hB b
      have c1 := hc o e b (by omega) (by omega) (by omega)
      have c2 := hc o (l.getD e 0) b (by omega) (by omega) (by omega)
      have c3 := hc o b e (by omega) (by omega) (by omega)
      have c4 := hc o b (l.getD e 0) (by omega) (by omega) (by omega)
      rw [if_pos (by omega), if_pos (by omega)] at c1 c2 c3 c4
      rw [hid] at c2 c4
      exact ⟨by rw [c1, c2], fun _ => by rw [c3, c4]⟩
end CN
/-- a line as a number -/
def cdR (l : List Nat) : Nat → Nat → Nat → Nat
  | _, v, 0 => v
  | i, v, m + 1 => cdR l (i + 1) (v * 7 + l.getD i 0) m
theorem pow7 : ∀ i, i ≤ 7 → 7 ^ i ≤ 823543 := by decide
theorem encode_L {F c n : Nat} {h : HF} {l : List Nat} {k : Int → HF → RO} (hc : kl c = 7) (hL : LN h c l) (hl : l.length = n) (hn : n ≤ 7) (h6 : ∀ i, i < n → l.getD i 0 < 7) : ∀ (m i N v : Nat), i + m = n → m + 1 ≤ N → v < 7 ^ i → LX11_encode_4 F c (n : Int) k N (v : Int) (i : Int) h = k ((cdR l i v m : Nat) : Int) h := by
  intro m
  induction m with
  | zero =>
    intro i N v hi hN hv
    obtain ⟨N, rfl⟩ : ∃ M, N = M + 1 := ⟨N - 1, by omega⟩
    rw [LX11_encode_4, if_neg (by omega)]
    rfl
  | succ m ih =>
    intro i N v hi hN hv
    obtain ⟨N, rfl⟩ : ∃ M, N = M + 1 := ⟨N - 1, by omega⟩
    have h7 := pow7 i (by omega)
    have hx := h6 i (by omega)
    have ep : 7 ^ (i + 1) = 7 ^ i * 7 := Nat.pow_succ ..
    rw [LX11_encode_4, if_pos (by omega), zrd_ok (a := c) ⟨by omega, by rw [hc]; omega⟩, Int.toNat_natCast, hL i (by omega), zlet_eq, zlet_eq, wr_s (by omega), wr_id (x := (v : Int) * 7) ⟨by omega, by omega⟩, wr_id ⟨by omega, by omega⟩, show (v : Int) * 7 + ((l.getD i 0 : Nat) : Int) = ((v * 7 + l.getD i 0 : Nat) : Int) by omega, ih (i + 1) N _ (by omega) (by omega) (by omega)]
    rfl
theorem encode_eq {F c n : Nat} {h : HF} {l : List Nat} (hF : 9 ≤ F) (hc : kl c = 7) (hL : LN h c l) (hl : l.length = n) (hn : n ≤ 7) (h6 : ∀ i, i < n → l.getD i 0 < 7) : fX11_encode F c (n : Int) h = some (((cdR l 0 0 n : Nat) : Int), h) := by
  unfold fX11_encode
  simp only [zjn_eq]
  exact encode_L (F := F) (k := fun x h => some (x, h)) hc hL hl hn h6 n 0 F 0 (by omega) (by omega) (by decide)
theorem told_L {F c n : Nat} {h : HF} {l : List Nat} {k : Int → HF → RO} (hc : kl c = 7) (hL : LN h c l) (hl : l.length = n) (hn : n ≤ 7) (h6 : ∀ i, i < n → l.getD i 0 < 7) : ∀ (m i N v : Nat), i + m = n → m + 1 ≤ N → v < 7 ^ i → LX12_told_5 F c (n : Int) k N (v : Int) (i : Int) h = k ((cdR l i v m : Nat) : Int) h := by
  intro m
  induction m with
  | zero =>
    intro i N v hi hN hv
    obtain ⟨N, rfl⟩ : ∃ M, N = M + 1 := ⟨N - 1, by omega⟩
    rw [LX12_told_5, if_neg (by omega)]
    rfl
  | succ m ih =>
    intro i N v hi hN hv
    obtain ⟨N, rfl⟩ : ∃ M, N = M + 1 := ⟨N - 1, by omega⟩
    have h7 := pow7 i (by omega)
    have hx := h6 i (by omega)
    have ep : 7 ^ (i + 1) = 7 ^ i * 7 := Nat.pow_succ ..
    rw [LX12_told_5, if_pos (by omega), zrd_ok (a := c) ⟨by omega, by rw [hc]; omega⟩, Int.toNat_natCast, hL i (by omega), zlet_eq, zlet_eq, wr_s (by omega), wr_id (x := 7 * (v : Int)) ⟨by omega, by omega⟩, wr_id ⟨by omega, by omega⟩, show 7 * (v : Int) + ((l.getD i 0 : Nat) : Int) = ((v * 7 + l.getD i 0 : Nat) : Int) by omega, ih (i + 1) N _ (by omega) (by omega) (by omega)]
    rfl
theorem told_eq {F c n : Nat} {h : HF} {l : List Nat} (hF : 9 ≤ F) (hc : kl c = 7) (hL : LN h c l) (hl : l.length = n) (hn : n ≤ 7) (h6 : ∀ i, i < n → l.getD i 0 < 7) : fX12_told F 181 c (n : Int) h = some (((cdR l 0 0 n : Nat) : Int), h) := by
  unfold fX12_told
  simp only [zjn_eq]
  exact told_L (F := F) (k := fun x h => some (x, h)) hc hL hl hn h6 n 0 F 0 (by omega) (by omega) (by decide)
