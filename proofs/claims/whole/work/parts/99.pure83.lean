/-! maps: the reference's search -/
theorem nodup_snoc {l : List Nat} {v : Nat} : (l ++ [v]).Nodup ↔ l.Nodup ∧ v ∉ l := by
  rw [List.nodup_append]
  constructor
  · rintro ⟨h1, _, h3⟩
    exact ⟨h1, fun q => h3 v q v (by simp) rfl⟩
  · rintro ⟨h1, h2⟩
    refine ⟨h1, by simp, fun a ha b hb e => h2 ?_⟩
    rw [List.mem_singleton] at hb
    rw [← hb, ← e]; exact ha
theorem take_snoc {l : List Nat} {a : Nat} (ha : a < l.length) : l.take (a + 1) = l.take a ++ [l.getD a 0] := by
  rw [List.take_succ, List.getD_eq_getElem?_getD, List.getElem?_eq_getElem ha]
  rfl
/-- one cell of a map: its value's is the value of theirs, where the value has one -/
def g1B (tb tb2 : Nat → Nat → Int) (n n2 : Nat) (ar : List Nat) (l : List Nat) (o a b : Nat) : Bool := !(decide (vl tb n ar o a b < l.length)) || decide (l.getD (vl tb n ar o a b) 0 = vl tb2 n2 ar o (if 0 < ar.getD o 0 then l.getD a 0 else 0) (if 1 < ar.getD o 0 then l.getD b 0 else 0))
def goB (tb tb2 : Nat → Nat → Int) (n n2 : Nat) (ar : List Nat) (l : List Nat) : Bool := alB (fun o => alB (fun a => alB (g1B tb tb2 n n2 ar l o a) 0 (if 1 < ar.getD o 0 then l.length else 1)) 0 (if 0 < ar.getD o 0 then l.length else 1)) 0 ar.length
def whB (what n2 : Nat) (l : List Nat) : Bool := (decide (what % 2 = 0) || decide l.Nodup) && (decide (what < 2) || decide (usB l = 2 ^ n2 - 1))
/-- the maps that the reference finds -/
def RM (P W : List Nat → Bool) (n2 : Nat) : Nat → List Nat → List (List Nat)
  | 0, l => if W l = true then [l] else []
  | k + 1, l => flF (fun v => if P (l ++ [v]) = true then RM P W n2 k (l ++ [v]) else []) n2 0
theorem RM_s {P W : List Nat → Bool} {n2 k : Nat} {l : List Nat} : RM P W n2 (k + 1) l = flF (fun v => if P (l ++ [v]) = true then RM P W n2 k (l ++ [v]) else []) n2 0 := rfl
section MX
variable {F n n2 d e : Nat} {ar : List Nat} {tb tb2 : Nat → Nat → Int} {w : Int}
def MXm (h : HF) (d e n n2 : Nat) (ar : List Nat) (tb tb2 : Nat → Nat → Int) (w : Int) : Prop := RepM h 184 185 186 187 d n ar tb ∧ RepM h 184 185 186 187 e n2 ar tb2 ∧ h 181 47 = w
theorem MX_keep {h h' : HF} (ex : ∀ c i, c ≠ 210 → (c ≠ 181 ∨ i ≠ 43) → h' c i = h c i) (hM : MXm h d e n n2 ar tb tb2 w) : MXm h' d e n n2 ar tb tb2 w := ⟨RepM_keep (fun k => ⟨ex _ _ (by omega) (by omega), ex _ _ (by omega) (by omega), ex _ _ (by omega) (by omega), ex _ _ (by omega) (by omega)⟩) hM.1, RepM_keep (fun k => ⟨ex _ _ (by omega) (by omega), ex _ _ (by omega) (by omega), ex _ _ (by omega) (by omega), ex _ _ (by omega) (by omega)⟩) hM.2.1, by rw [ex _ _ (by omega) (by omega)]; exact hM.2.2⟩
section GO
variable {h : HF} {l : List Nat}
theorem go3 (hd : d < 10) (he : e < 10) (hw : WF n ar tb) (hw2 : WF n2 ar tb2) (hM : MXm h d e n n2 ar tb tb2 w) (hL : LN h 210 l) (h1 : 1 ≤ l.length) (hl : l.length ≤ n) (hv : ∀ i, i < l.length → l.getD i 0 < n2) {o a : Nat} (ho : o < ar.length) (ha : a < (if 0 < ar.getD o 0 then l.length else 1)) {u5 : Int} {k164 : Int → HF → RO} {k156 : HF → RO} : ∀ (m b N : Nat), b + m = (if 1 < ar.getD o 0 then l.length else 1) → m + 1 ≤ N → LX12_goes_62 F 181 (d : Int) (e : Int) (l.length : Int) (o : Int) u5 (((if 1 < ar.getD o 0 then l.length else 1 : Nat) : Nat) : Int) (a : Int) k164 k156 N (b : Int) h = if alB (g1B tb tb2 n n2 ar l o a) b m = true then k164 (a : Int) h else k156 h := by
  have hn := hw.1
  have hn2 := hw2.1
  have al : a < l.length := by
    by_cases z : 0 < ar.getD o 0
    · rw [if_pos z] at ha; exact ha
    · rw [if_neg z] at ha; omega
  intro m
  induction m with
  | zero =>
    intro b N hb hN
    obtain ⟨N, rfl⟩ : ∃ M, N = M + 1 := ⟨N - 1, by omega⟩
    rw [LX12_goes_62, if_neg (by omega)]
    rfl
  | succ m ih =>
    intro b N hb hN
    obtain ⟨N, rfl⟩ : ∃ M, N = M + 1 := ⟨N - 1, by omega⟩
    have bl : b < l.length := by
      by_cases z : 1 < ar.getD o 0
      · rw [if_pos z] at hb; omega
      · rw [if_neg z] at hb; omega
    have vb := (vl_eq hw ho (show a < n by omega) (show b < n by omega)).2
    rw [LX12_goes_62, if_pos (by omega), mval hd hw hM.1 ho (by omega) (by omega), zbd_some, marity_eq hd hw hM.1 ho, zbd_some]
    simp only [zjn_eq, zlet_eq]
    rw [marity_eq hd hw hM.1 ho, zbd_some, wr_s (by omega), alB_s]
    have pa : (if 0 < ar.getD o 0 then l.getD a 0 else 0) < n2 := by
      by_cases z : 0 < ar.getD o 0
      · rw [if_pos z]; exact hv a al
      · rw [if_neg z]; omega
    have pb : (if 1 < ar.getD o 0 then l.getD b 0 else 0) < n2 := by
      by_cases z : 1 < ar.getD o 0
      · rw [if_pos z]; exact hv b bl
      · rw [if_neg z]; omega
    -- the last test
    have fin : ∀ (K0 K1 : RO), (if ((vl tb n ar o a b : Nat) : Int) < (l.length : Int) then (zrd h (181 + 29) ((vl tb n ar o a b : Nat) : Int) fun x10 => zbd (fX12_value F 181 (e : Int) (o : Int) (((if 0 < ar.getD o 0 then l.getD a 0 else 0 : Nat) : Nat) : Int) (((if 1 < ar.getD o 0 then l.getD b 0 else 0 : Nat) : Nat) : Int) h) fun r11 _ => if x10 = r11 then K1 else K0) else K1) = if g1B tb tb2 n n2 ar l o a b = true then K1 else K0 := fun K0 K1 => by
      unfold g1B
      by_cases z : vl tb n ar o a b < l.length
      · rw [if_pos (by omega), rdm29 (by omega), hL _ z, mval he hw2 hM.2.1 ho pa pb, zbd_some, decide_eq_true z, Bool.not_true, Bool.false_or]
        by_cases y : l.getD (vl tb n ar o a b) 0 = vl tb2 n2 ar o (if 0 < ar.getD o 0 then l.getD a 0 else 0) (if 1 < ar.getD o 0 then l.getD b 0 else 0)
        · rw [if_pos (by omega), decide_eq_true y, if_pos rfl]
        · rw [if_neg (by omega), decide_eq_false y, if_neg (by decide)]
      · rw [if_neg (by omega), decide_eq_false z, Bool.not_false, Bool.true_or, if_pos rfl]
    have ans : (if (g1B tb tb2 n n2 ar l o a b && alB (g1B tb tb2 n n2 ar l o a) (b + 1) m) = true then k164 (a : Int) h else k156 h) = if g1B tb tb2 n n2 ar l o a b = true then (if alB (g1B tb tb2 n n2 ar l o a) (b + 1) m = true then k164 (a : Int) h else k156 h) else k156 h := by
      cases g1B tb tb2 n n2 ar l o a b with
      | true => rw [Bool.true_and, if_pos rfl]
      | false => rw [Bool.false_and, if_neg (by decide), if_neg (by decide)]
    rw [ans, ← fin]
    have i1 := ih (b + 1) N (by omega) (by omega)
    by_cases z0 : 0 < ar.getD o 0
    · have e0 : (if 0 < ar.getD o 0 then l.getD a 0 else 0) = l.getD a 0 := if_pos z0
      rw [if_pos (show (0 : Int) < ((ar.getD o 0 : Nat) : Int) by omega), rdm29 (by omega), hL a al, zbd_some, e0]
      by_cases z1 : 1 < ar.getD o 0
      · have e1 : (if 1 < ar.getD o 0 then l.getD b 0 else 0) = l.getD b 0 := if_pos z1
        rw [if_pos (show (1 : Int) < ((ar.getD o 0 : Nat) : Int) by omega), rdm29 (by omega), hL b bl, e1]
        by_cases y : ((vl tb n ar o a b : Nat) : Int) < (l.length : Int)
        · rw [if_pos y, if_pos y, rdm29 (by omega), rdm29 (by omega), mval he hw2 hM.2.1 ho (hv a al) (hv b bl), zbd_some, zbd_some, i1]
        · rw [if_neg y, if_neg y, i1]
      · have e1 : (if 1 < ar.getD o 0 then l.getD b 0 else 0) = 0 := if_neg z1
        rw [if_neg (show ¬ (1 : Int) < ((ar.getD o 0 : Nat) : Int) by omega), e1]
        have mv : fX12_value F 181 (e : Int) (o : Int) ((l.getD a 0 : Nat) : Int) 0 h = some (((vl tb2 n2 ar o (l.getD a 0) 0 : Nat) : Int), h) := mval (b := 0) he hw2 hM.2.1 ho (hv a al) (by omega)
        have mv' : fX12_value F 181 (e : Int) (o : Int) ((l.getD a 0 : Nat) : Int) ((0 : Nat) : Int) h = some (((vl tb2 n2 ar o (l.getD a 0) 0 : Nat) : Int), h) := mv
        by_cases y : ((vl tb n ar o a b : Nat) : Int) < (l.length : Int)
        · rw [if_pos y, if_pos y, rdm29 (by omega), rdm29 (by omega), mv, mv', zbd_some, zbd_some, i1]
        · rw [if_neg y, if_neg y, i1]
    · have e0 : (if 0 < ar.getD o 0 then l.getD a 0 else 0) = 0 := if_neg z0
      have e1 : (if 1 < ar.getD o 0 then l.getD b 0 else 0) = 0 := if_neg (by omega)
      rw [if_neg (show ¬ (0 : Int) < ((ar.getD o 0 : Nat) : Int) by omega), if_neg (show ¬ (1 : Int) < ((ar.getD o 0 : Nat) : Int) by omega), e0, e1]
      have mv : fX12_value F 181 (e : Int) (o : Int) 0 0 h = some (((vl tb2 n2 ar o 0 0 : Nat) : Int), h) := mval (a := 0) (b := 0) he hw2 hM.2.1 ho (by omega) (by omega)
      have mv' : fX12_value F 181 (e : Int) (o : Int) ((0 : Nat) : Int) ((0 : Nat) : Int) h = some (((vl tb2 n2 ar o 0 0 : Nat) : Int), h) := mv
      by_cases y : ((vl tb n ar o a b : Nat) : Int) < (l.length : Int)
      · rw [if_pos y, if_pos y, rdm29 (by omega), rdm29 (by omega), mv, mv', zbd_some, zbd_some, i1]
      · rw [if_neg y, if_neg y, i1]
theorem go2 (hF : 9 ≤ F) (hd : d < 10) (he : e < 10) (hw : WF n ar tb) (hw2 : WF n2 ar tb2) (hM : MXm h d e n n2 ar tb tb2 w) (hL : LN h 210 l) (h1 : 1 ≤ l.length) (hl : l.length ≤ n) (hv : ∀ i, i < l.length → l.getD i 0 < n2) {o : Nat} (ho : o < ar.length) {k170 : Int → HF → RO} {k156 : HF → RO} : ∀ (m a N : Nat), a + m = (if 0 < ar.getD o 0 then l.length else 1) → m + 1 ≤ N → LX12_goes_52 F 181 (d : Int) (e : Int) (l.length : Int) (o : Int) (((if 0 < ar.getD o 0 then l.length else 1 : Nat) : Nat) : Int) (((if 1 < ar.getD o 0 then l.length else 1 : Nat) : Nat) : Int) k170 k156 N (a : Int) h = if alB (fun a => alB (g1B tb tb2 n n2 ar l o a) 0 (if 1 < ar.getD o 0 then l.length else 1)) a m = true then k170 (o : Int) h else k156 h := by
  have hn := hw.1
  have lb : (if 1 < ar.getD o 0 then l.length else 1) ≤ 7 := by
    by_cases z : 1 < ar.getD o 0
    · rw [if_pos z]; omega
    · rw [if_neg z]; omega
  have la : (if 0 < ar.getD o 0 then l.length else 1) ≤ 7 := by
    by_cases z : 0 < ar.getD o 0
    · rw [if_pos z]; omega
    · rw [if_neg z]; omega
  intro m
  induction m with
  | zero =>
    intro a N ha hN
    obtain ⟨N, rfl⟩ : ∃ M, N = M + 1 := ⟨N - 1, by omega⟩
    rw [LX12_goes_52, if_neg (by omega)]
    rfl
  | succ m ih =>
    intro a N ha hN
    obtain ⟨N, rfl⟩ : ∃ M, N = M + 1 := ⟨N - 1, by omega⟩
    rw [LX12_goes_52, if_pos (by omega), zjn_eq]
    refine (go3 (F := F) hd he hw hw2 hM hL h1 hl hv ho (show a < (if 0 < ar.getD o 0 then l.length else 1) by omega) (if 1 < ar.getD o 0 then l.length else 1) 0 F (by omega) (by omega)).trans ?_
    rw [zlet_eq, wr_s (by omega), ih (a + 1) N (by omega) (by omega), alB_s]
    cases alB (g1B tb tb2 n n2 ar l o a) 0 (if 1 < ar.getD o 0 then l.length else 1) with
    | true => rw [if_pos rfl, Bool.true_and]
    | false => rw [if_neg (by decide), Bool.false_and, if_neg (by decide)]
theorem go1 (hF : 9 ≤ F) (hd : d < 10) (he : e < 10) (hw : WF n ar tb) (hw2 : WF n2 ar tb2) (hM : MXm h d e n n2 ar tb tb2 w) (hL : LN h 210 l) (h1 : 1 ≤ l.length) (hl : l.length ≤ n) (hv : ∀ i, i < l.length → l.getD i 0 < n2) {k176 k156 : HF → RO} : ∀ (m o N : Nat), o + m = ar.length → m + 1 ≤ N → LX12_goes_3 F 181 (d : Int) (e : Int) (l.length : Int) k176 k156 N (o : Int) h = if alB (fun o => alB (fun a => alB (g1B tb tb2 n n2 ar l o a) 0 (if 1 < ar.getD o 0 then l.length else 1)) 0 (if 0 < ar.getD o 0 then l.length else 1)) o m = true then k176 h else k156 h := by
  have hn := hw.1
  have hl4 := hw.2.1
  intro m
  induction m with
  | zero =>
    intro o N ho hN
    obtain ⟨N, rfl⟩ : ∃ M, N = M + 1 := ⟨N - 1, by omega⟩
    rw [LX12_goes_3, mops hd hM.1, if_neg (by omega)]
    rfl
  | succ m ih =>
    intro o N ho hN
    obtain ⟨N, rfl⟩ : ∃ M, N = M + 1 := ⟨N - 1, by omega⟩
    have ho' : o < ar.length := by omega
    have la : (if 0 < ar.getD o 0 then l.length else 1) ≤ 7 := by
      by_cases z : 0 < ar.getD o 0
      · rw [if_pos z]; omega
      · rw [if_neg z]; omega
    rw [LX12_goes_3, mops hd hM.1, if_pos (by omega), marity_eq hd hw hM.1 ho', zbd_some]
    simp only [zjn_eq, zlet_eq]
    have g2 := go2 (F := F) hF hd he hw hw2 hM hL h1 hl hv ho' (k170 := fun x170_4 h => LX12_goes_3 F 181 (d : Int) (e : Int) (l.length : Int) k176 k156 N (wr (x170_4 + 1)) h) (k156 := k156) (if 0 < ar.getD o 0 then l.length else 1) 0 F (by omega) (by omega)
    have fin : LX12_goes_52 F 181 (d : Int) (e : Int) (l.length : Int) (o : Int) (((if 0 < ar.getD o 0 then l.length else 1 : Nat) : Nat) : Int) (((if 1 < ar.getD o 0 then l.length else 1 : Nat) : Nat) : Int) (fun x170_4 h => LX12_goes_3 F 181 (d : Int) (e : Int) (l.length : Int) k176 k156 N (wr (x170_4 + 1)) h) k156 F 0 h = if alB (fun o => alB (fun a => alB (g1B tb tb2 n n2 ar l o a) 0 (if 1 < ar.getD o 0 then l.length else 1)) 0 (if 0 < ar.getD o 0 then l.length else 1)) o (m + 1) = true then k176 h else k156 h := by
      refine g2.trans ?_
      rw [wr_s (by omega), ih (o + 1) N (by omega) (by omega), alB_s]
      cases alB (fun a => alB (g1B tb tb2 n n2 ar l o a) 0 (if 1 < ar.getD o 0 then l.length else 1)) 0 (if 0 < ar.getD o 0 then l.length else 1) with
      | true => rw [if_pos rfl, Bool.true_and]
      | false => rw [if_neg (by decide), Bool.false_and, if_neg (by decide)]
    rw [← fin]
    by_cases z0 : 0 < ar.getD o 0
    · rw [if_pos (show (0 : Int) < ((ar.getD o 0 : Nat) : Int) by omega), marity_eq hd hw hM.1 ho', zbd_some, if_pos z0]
      by_cases z1 : 1 < ar.getD o 0
      · rw [if_pos (show (1 : Int) < ((ar.getD o 0 : Nat) : Int) by omega), if_pos z1]
      · rw [if_neg (show ¬ (1 : Int) < ((ar.getD o 0 : Nat) : Int) by omega), if_neg z1]; rfl
    · rw [if_neg (show ¬ (0 : Int) < ((ar.getD o 0 : Nat) : Int) by omega), marity_eq hd hw hM.1 ho', zbd_some, if_neg z0, if_neg (show ¬ (1 : Int) < ((ar.getD o 0 : Nat) : Int) by omega), if_neg (show ¬ 1 < ar.getD o 0 by omega)]; rfl
theorem goes_eq (hF : 9 ≤ F) (hd : d < 10) (he : e < 10) (hw : WF n ar tb) (hw2 : WF n2 ar tb2) (hM : MXm h d e n n2 ar tb tb2 w) (hL : LN h 210 l) (h1 : 1 ≤ l.length) (hl : l.length ≤ n) (hv : ∀ i, i < l.length → l.getD i 0 < n2) : fX12_goes F 181 (d : Int) (e : Int) (l.length : Int) h = some (bi (goB tb tb2 n n2 ar l), h) := by
  have hl4 := hw.2.1
  unfold fX12_goes
  rw [zjn_eq, zjn_eq]
  refine (go1 (F := F) hF hd he hw hw2 hM hL h1 hl hv (k176 := fun h => zrz 1 h) (k156 := fun h => zrz 0 h) ar.length 0 F (by omega) (by omega)).trans ?_
  unfold goB
  cases alB (fun o => alB (fun a => alB (g1B tb tb2 n n2 ar l o a) 0 (if 1 < ar.getD o 0 then l.length else 1)) 0 (if 0 < ar.getD o 0 then l.length else 1)) 0 ar.length <;> rfl
theorem what_L (hd : d < 10) (hw : WF n ar tb) (hM : MXm h d e n n2 ar tb tb2 w) (hn2 : n2 ≤ 7) (hL : LN h 210 l) (hl : l.length = n) (hv : ∀ i, i < l.length → l.getD i 0 < n2) {u2 u3 : Int} {k67 : Int → Int → HF → RO} : ∀ (m a N : Nat), a + m = n → m + 1 ≤ N → LX12_isWhat_9 F 181 (d : Int) u2 u3 k67 N (usB (l.take a) : Int) (bi (decide (l.take a).Nodup)) (a : Int) h = k67 (usB l : Int) (bi (decide l.Nodup)) h := by
  have hn := hw.1
  intro m
  induction m with
  | zero =>
    intro a N ha hN
    obtain ⟨N, rfl⟩ : ∃ M, N = M + 1 := ⟨N - 1, by omega⟩
    rw [LX12_isWhat_9, msz hd hM.1, if_neg (by omega), List.take_of_length_le (by omega)]
  | succ m ih =>
    intro a N ha hN
    obtain ⟨N, rfl⟩ : ∃ M, N = M + 1 := ⟨N - 1, by omega⟩
    have va := hv a (by omega)
    have u1 := us_lt (l.take a)
    have ew : wor (usB (l.take a) : Int) (wshl 1 ((l.getD a 0 : Nat) : Int)) = (usB (l.take (a + 1)) : Int) := by
      rw [take_snoc (by omega), us_snoc (by omega), wshl_1 (by omega), wor_N (by omega) (by have := Nat.pow_lt_pow_right (a := 2) (by decide) (show l.getD a 0 < 7 by omega); omega)]
    have nd : (l.take (a + 1)).Nodup ↔ (l.take a).Nodup ∧ l.getD a 0 ∉ l.take a := by rw [take_snoc (by omega), nodup_snoc]
    rw [LX12_isWhat_9, msz hd hM.1, if_pos (by omega)]
    simp only [zjn_eq, zlet_eq]
    rw [rdm29 (by omega), rdm29 (by omega), rdm29 (by omega), hL a (by omega), ew, wr_s (by omega), bit_of (by omega) (by omega), ← ih (a + 1) N (by omega) (by omega)]
    by_cases z : (l.take a).Nodup
    · rw [decide_eq_true z, if_neg (show ¬ bi true = 0 by decide)]
      by_cases y : l.getD a 0 ∈ l.take a
      · rw [if_pos (us_bit.mpr ⟨by omega, y⟩), if_neg (show ¬ (1 : Int) = 0 by decide), decide_eq_false (fun q => (nd.mp q).2 y)]
        rfl
      · rw [if_neg (fun q => y (us_bit.mp q).2), if_pos rfl, decide_eq_true (nd.mpr ⟨z, y⟩)]
        rfl
    · rw [decide_eq_false z, if_pos (show bi false = 0 from rfl), decide_eq_false (fun q => z (nd.mp q).1)]
      rfl
theorem isWhat_eq {what : Nat} (hF : 9 ≤ F) (hd : d < 10) (he : e < 10) (hw : WF n ar tb) (hw2 : WF n2 ar tb2) (hM : MXm h d e n n2 ar tb tb2 w) (hL : LN h 210 l) (hl : l.length = n) (hv : ∀ i, i < l.length → l.getD i 0 < n2) (hwh : what < 4) : fX12_isWhat F 181 (d : Int) (e : Int) (what : Int) h = some (bi (whB what n2 l), h) := by
  have hn := hw.1
  have hn2 := hw2.1
  have us8 := us_lt l
  unfold fX12_isWhat
  rw [zjn_eq]
  have W := fun k67 => what_L (F := F) hd hw hM hn2.2 hL hl hv (u2 := (e : Int)) (u3 := (what : Int)) (k67 := k67) n 0 F (by omega) (by omega)
  rw [show usB (l.take 0) = 0 by rw [List.take_zero]; decide, show decide (l.take 0).Nodup = true by simp] at W
  refine (W _).trans ?_
  simp only [zjn_eq]
  rw [msz he hM.2.1, full_eq hn2.2, zdv_ok (by decide), zdv_ok (by decide), show wrem (what : Int) 2 = ((what % 2 : Nat) : Int) from wrem_N (k := 2) (by omega)]
  unfold whB
  by_cases z : usB l = 2 ^ n2 - 1
  · rw [if_pos (by omega), decide_eq_true z, Bool.or_true, Bool.and_true]
    by_cases q : what % 2 = 0
    · rw [if_pos (by omega), decide_eq_true q, Bool.true_or]
      by_cases q1 : (what : Int) < 2
      · rw [if_pos q1]; rfl
      · rw [if_neg q1, if_neg (show ¬ (1 : Int) = 0 by decide)]; rfl
    · rw [if_neg (by omega), decide_eq_false q, Bool.false_or]
      by_cases y : l.Nodup
      · rw [decide_eq_true y, if_neg (show ¬ bi true = 0 by decide)]
        by_cases q1 : (what : Int) < 2
        · rw [if_pos q1]; rfl
        · rw [if_neg q1, if_neg (show ¬ (1 : Int) = 0 by decide)]; rfl
      · rw [decide_eq_false y, if_pos (show bi false = 0 from rfl)]; rfl
  · rw [if_neg (by omega), decide_eq_false z, Bool.or_false]
    by_cases q : what % 2 = 0
    · rw [if_pos (by omega), decide_eq_true q, Bool.true_or, Bool.true_and]
      by_cases q1 : what < 2
      · rw [if_pos (by omega), decide_eq_true q1]; rfl
      · rw [if_neg (by omega), if_pos trivial, decide_eq_false q1]; rfl
    · rw [if_neg (by omega), decide_eq_false q, Bool.false_or]
      by_cases y : l.Nodup
      · rw [decide_eq_true y, if_neg (show ¬ bi true = 0 by decide), Bool.true_and]
        by_cases q1 : what < 2
        · rw [if_pos (by omega), decide_eq_true q1]; rfl
        · rw [if_neg (by omega), if_pos trivial, decide_eq_false q1]; rfl
      · rw [decide_eq_false y, if_pos (show bi false = 0 from rfl), Bool.false_and]; rfl
end GO
end MX
