/-! when a line is a congruence: both sides -/
def agB (tb : Nat → Nat → Int) (n : Nat) (ar : List Nat) (l : List Nat) : Bool := alB (fun o => alB (fun a => alB (fun b => decide (l.getD (vl tb n ar o a b) 0 = l.getD (vl tb n ar o (if 0 < ar.getD o 0 then l.getD a 0 else 0) (if 1 < ar.getD o 0 then l.getD b 0 else 0)) 0)) 0 (clN n (ar.getD o 0))) 0 (rwN n (ar.getD o 0))) 0 ar.length
/-- the first pair that clashes -/
def clo3 (tb : Nat → Nat → Int) (n : Nat) (ar : List Nat) (l : List Nat) (o e d : Nat) : Nat → Nat → Option (Nat × Nat)
  | _, 0 => none
  | b, m + 1 => if l.getD (vl tb n ar o e b) 0 = l.getD (vl tb n ar o d b) 0 then (if ar.getD o 0 = 2 then (if l.getD (vl tb n ar o b e) 0 = l.getD (vl tb n ar o b d) 0 then clo3 tb n ar l o e d (b + 1) m else some (vl tb n ar o b e, vl tb n ar o b d)) else clo3 tb n ar l o e d (b + 1) m) else some (vl tb n ar o e b, vl tb n ar o d b)
def clo2 (tb : Nat → Nat → Int) (n : Nat) (ar : List Nat) (l : List Nat) (e : Nat) : Nat → Nat → Option (Nat × Nat)
  | _, 0 => none
  | o, m + 1 => match clo3 tb n ar l o e (l.getD e 0) 0 (clN n (ar.getD o 0)) with
    | none => clo2 tb n ar l e (o + 1) m
    | some p => some p
def clo1 (tb : Nat → Nat → Int) (n : Nat) (ar : List Nat) (l : List Nat) : Nat → Nat → Option (Nat × Nat)
  | _, 0 => none
  | e, m + 1 => if l.getD e 0 = e then clo1 tb n ar l (e + 1) m else match clo2 tb n ar l e 0 ar.length with
    | none => clo1 tb n ar l (e + 1) m
    | some p => some p
def clI : Option (Nat × Nat) → Int
  | none => -1
  | some p => ((7 * p.1 + p.2 : Nat) : Int)
section CO
variable {F A d n : Nat} {ar : List Nat} {tb : Nat → Nat → Int} {h : HF} {l : List Nat}
theorem rd96 {i : Nat} {f : Int → RO} (hL : LN h 96 l) (hl : l.length ≤ 7) (hi : i < l.length) : zrd h (94 + 2) (i : Int) f = f ((l.getD i 0 : Nat) : Int) := by
  have k6 : kl (94 + 2) = 7 := by decide +kernel
  rw [zrd_ok (a := 94 + 2) ⟨by omega, by rw [k6]; omega⟩, Int.toNat_natCast, show h (94 + 2) i = _ from hL i hi]
theorem clashOf_L (hA : h 94 4 = (A : Int)) (hk : kt A = 0 + 3) (hw : WF n ar tb) (hr : RepC h A n ar tb) (hL : LN h 96 l) (hl : l.length = n) {o e dd : Nat} (ho : o < ar.length) (he : e < n) (hd : dd < n) {k143 : HF → RO} {kk : Int → Int → HF → RO} : ∀ (m b N : Nat), b + m = clN n (ar.getD o 0) → m + 1 ≤ N → LX2_clashOf_13 F 94 (o : Int) (e : Int) (dd : Int) ((clN n (ar.getD o 0) : Nat) : Int) k143 kk kk N (b : Int) h = match clo3 tb n ar l o e dd b m with
    | none => k143 h
    | some p => kk (p.1 : Int) (p.2 : Int) h := by
  have hn := hw.1
  have hl4 := hw.2.1
  have hle := rw_le (n := n) (r := ar.getD o 0) hn.1
  obtain ⟨-, k1, -, -, -, -⟩ := zl_0 A hk
  have zg : ∀ f : Nat → RO, zgd h 94 4 f = f A := fun f => zgd_at hA
  have cv : ∀ a b : Nat, a < n → b < n → fX0_value F A (o : Int) (a : Int) (b : Int) h = some (((vl tb n ar o a b : Nat) : Int), h) := fun a b ha hb => cval hk hw hr ho ha hb
  have vn : ∀ a b : Nat, a < n → b < n → vl tb n ar o a b < n := fun a b ha hb => (vl_eq hw ho ha hb).2
  have rd : ∀ (i : Nat) (f : Int → RO), i < n → zrd h (94 + 2) (i : Int) f = f ((l.getD i 0 : Nat) : Int) := fun i f hi => rd96 hL (by omega) (by omega)
  have ra : ∀ f : Int → RO, zrd h (A + 1) (o : Int) f = f ((ar.getD o 0 : Nat) : Int) := fun f => by rw [zrd_ok (a := A + 1) ⟨by omega, by rw [k1]; omega⟩, Int.toNat_natCast, hr.2.2.2.1 o ho]
  intro m
  induction m with
  | zero =>
    intro b N hb hN
    obtain ⟨N, rfl⟩ : ∃ M, N = M + 1 := ⟨N - 1, by omega⟩
    rw [LX2_clashOf_13, if_neg (by omega)]
    rfl
  | succ m ih =>
    intro b N hb hN
    obtain ⟨N, rfl⟩ : ∃ M, N = M + 1 := ⟨N - 1, by omega⟩
    have hbn : b < n := by omega
    rw [LX2_clashOf_13, if_pos (by omega), zg, cv e b he hbn, zbd_some, zg, cv dd b hd hbn, zbd_some, rd _ _ (vn e b he hbn), rd _ _ (vn dd b hd hbn)]
    simp only [clo3]
    by_cases q1 : l.getD (vl tb n ar o e b) 0 = l.getD (vl tb n ar o dd b) 0
    · rw [if_pos (by omega), if_pos q1, zg, ra]
      simp only [zjn_eq, zlet_eq]
      rw [wr_s (by omega), ih (b + 1) N (by omega) (by omega)]
      by_cases q2 : ar.getD o 0 = 2
      · rw [if_pos (by omega), if_pos q2, zg, cv b e hbn he, zbd_some, zg, cv b dd hbn hd, zbd_some, rd _ _ (vn b e hbn he), rd _ _ (vn b dd hbn hd), ih (b + 1) N (by omega) (by omega)]
        by_cases q3 : l.getD (vl tb n ar o b e) 0 = l.getD (vl tb n ar o b dd) 0
        · rw [if_pos (by omega), if_pos q3]
        · rw [if_neg (by omega), if_neg q3]
      · rw [if_neg (by omega), if_neg q2]
    · rw [if_neg (by omega), if_neg q1]
theorem clo3_lt (hw : WF n ar tb) {o e dd : Nat} (ho : o < ar.length) (he : e < n) (hd : dd < n) {p : Nat × Nat} : ∀ (m b : Nat), b + m ≤ clN n (ar.getD o 0) → clo3 tb n ar l o e dd b m = some p → p.1 < n ∧ p.2 < n
  | 0, b, _, e => by simp [clo3] at e
  | m + 1, b, hb, ee => by
    have hle := rw_le (n := n) (r := ar.getD o 0) hw.1.1
    have hbn : b < n := by omega
    simp only [clo3] at ee
    by_cases q1 : l.getD (vl tb n ar o e b) 0 = l.getD (vl tb n ar o dd b) 0
    · rw [if_pos q1] at ee
      by_cases q2 : ar.getD o 0 = 2
      · rw [if_pos q2] at ee
        by_cases q3 : l.getD (vl tb n ar o b e) 0 = l.getD (vl tb n ar o b dd) 0
        · rw [if_pos q3] at ee
          exact clo3_lt hw ho he hd m (b + 1) (by omega) ee
        · rw [if_neg q3] at ee
          obtain rfl : (vl tb n ar o b e, vl tb n ar o b dd) = p := by simpa using ee
          exact ⟨(vl_eq hw ho hbn he).2, (vl_eq hw ho hbn hd).2⟩
      · rw [if_neg q2] at ee
        exact clo3_lt hw ho he hd m (b + 1) (by omega) ee
    · rw [if_neg q1] at ee
      obtain rfl : (vl tb n ar o e b, vl tb n ar o dd b) = p := by simpa using ee
      exact ⟨(vl_eq hw ho he hbn).2, (vl_eq hw ho hd hbn).2⟩
theorem clashOf_eq (hF : 9 ≤ F) (hA : h 94 4 = (A : Int)) (hk : kt A = 0 + 3) (hw : WF n ar tb) (hr : RepC h A n ar tb) (hL : LN h 96 l) (hl : l.length = n) {o e dd : Nat} (ho : o < ar.length) (he : e < n) (hd : dd < n) : fX2_clashOf F 94 (o : Int) (e : Int) (dd : Int) h = some (clI (clo3 tb n ar l o e dd 0 (clN n (ar.getD o 0))), h) := by
  have hn := hw.1
  have hl4 := hw.2.1
  have hle := rw_le (n := n) (r := ar.getD o 0) hn.1
  unfold fX2_clashOf
  rw [zgd_at hA, cols_eq hk (by omega) hr.1 (hr.2.2.2.1 o ho), zbd_some]
  simp only [zjn_eq]
  refine (clashOf_L (F := F) hA hk hw hr hL hl ho he hd (k143 := fun h => some (-1, h)) (kk := fun v w h => some (wr (wr (7 * v) + w), h)) (clN n (ar.getD o 0)) 0 F (by omega) (by omega)).trans ?_
  cases q : clo3 tb n ar l o e dd 0 (clN n (ar.getD o 0)) with
  | none => rfl
  | some p =>
    have := clo3_lt hw ho he hd _ _ (by omega) q
    show some (wr (wr (7 * (p.1 : Int)) + (p.2 : Int)), h) = some (((7 * p.1 + p.2 : Nat) : Int), h)
    rw [wr_id (x := 7 * (p.1 : Int)) ⟨by omega, by omega⟩, wr_id ⟨by omega, by omega⟩]
    exact so_eq (by omega)
theorem clash2_L (hF : 9 ≤ F) (hA : h 94 4 = (A : Int)) (hk : kt A = 0 + 3) (hw : WF n ar tb) (hr : RepC h A n ar tb) (hL : LN h 96 l) (hl : l.length = n) (hB : BD l) {e : Nat} (he : e < n) {k65 k57 : Int → HF → RO} : ∀ (m o N : Nat), o + m = ar.length → m + 1 ≤ N → LX2_clash_28 F 94 (e : Int) k65 k57 N (o : Int) h = match clo2 tb n ar l e o m with
    | none => k65 (e : Int) h
    | some p => k57 (clI (some p)) h := by
  have hn := hw.1
  have hl4 := hw.2.1
  have hb := hB e
  intro m
  induction m with
  | zero =>
    intro o N ho hN
    obtain ⟨N, rfl⟩ : ∃ M, N = M + 1 := ⟨N - 1, by omega⟩
    rw [LX2_clash_28, zgd_at hA]
    simp only [zgf]
    rw [hr.2.1, if_neg (by omega)]
    rfl
  | succ m ih =>
    intro o N ho hN
    obtain ⟨N, rfl⟩ : ∃ M, N = M + 1 := ⟨N - 1, by omega⟩
    rw [LX2_clash_28, zgd_at hA]
    simp only [zgf]
    rw [hr.2.1, if_pos (by omega), rd96 hL (by omega) (by omega), clashOf_eq hF hA hk hw hr hL hl (by omega) he (by omega), zbd_some]
    simp only [clo2]
    cases q : clo3 tb n ar l o e (l.getD e 0) 0 (clN n (ar.getD o 0)) with
    | none =>
      rw [if_pos (show clI none = -1 from rfl), zlet_eq, wr_s (by omega), ih (o + 1) N (by omega) (by omega)]
    | some p =>
      rw [if_neg (by show ¬ ((7 * p.1 + p.2 : Nat) : Int) = -1; omega)]
theorem clash1_L (hF : 9 ≤ F) (hA : h 94 4 = (A : Int)) (hk : kt A = 0 + 3) (hw : WF n ar tb) (hr : RepC h A n ar tb) (hL : LN h 96 l) (hl : l.length = n) (hB : BD l) {k71 : HF → RO} {k57 : Int → HF → RO} : ∀ (m e N : Nat), e + m = n → m + 1 ≤ N → LX2_clash_2 F 94 k71 k57 N (e : Int) h = match clo1 tb n ar l e m with
    | none => k71 h
    | some p => k57 (clI (some p)) h := by
  have hn := hw.1
  have hl4 := hw.2.1
  intro m
  induction m with
  | zero =>
    intro e N he hN
    obtain ⟨N, rfl⟩ : ∃ M, N = M + 1 := ⟨N - 1, by omega⟩
    rw [LX2_clash_2, zgd_at hA]
    simp only [zgf]
    rw [hr.1, if_neg (by omega)]
    rfl
  | succ m ih =>
    intro e N he hN
    obtain ⟨N, rfl⟩ : ∃ M, N = M + 1 := ⟨N - 1, by omega⟩
    rw [LX2_clash_2, zgd_at hA]
    simp only [zgf]
    rw [hr.1, if_pos (by omega), rd96 hL (by omega) (by omega)]
    simp only [zjn_eq, zlet_eq, clo1]
    by_cases q : l.getD e 0 = e
    · rw [if_pos (by omega), if_pos q, wr_s (by omega), ih (e + 1) N (by omega) (by omega)]
    · rw [if_neg (by omega), if_neg q]
      refine (clash2_L (F := F) hF hA hk hw hr hL hl hB (show e < n by omega) (k65 := fun x65_1 h => LX2_clash_2 F 94 k71 k57 N (wr (x65_1 + 1)) h) (k57 := k57) ar.length 0 F (by omega) (by omega)).trans ?_
      cases q2 : clo2 tb n ar l e 0 ar.length with
      | none =>
        show LX2_clash_2 F 94 k71 k57 N (wr ((e : Int) + 1)) h = _
        rw [wr_s (by omega), ih (e + 1) N (by omega) (by omega)]
      | some p => rfl
theorem clash_eq (hF : 9 ≤ F) (hA : h 94 4 = (A : Int)) (hk : kt A = 0 + 3) (hw : WF n ar tb) (hr : RepC h A n ar tb) (hL : LN h 96 l) (hl : l.length = n) (hB : BD l) : fX2_clash F 94 h = some (clI (clo1 tb n ar l 1 (n - 1)), h) := by
  have hn := hw.1
  unfold fX2_clash
  simp only [zjn_eq]
  refine (clash1_L (F := F) hF hA hk hw hr hL hl hB (k71 := fun h => some (-1, h)) (k57 := fun x h => some (x, h)) (n - 1) 1 F (by omega) (by omega)).trans ?_
  cases clo1 tb n ar l 1 (n - 1) with
  | none => rfl
  | some p => rfl
theorem isLine_L (hL : LN h 207 l) (hl : l.length = n) (hn : n ≤ 7) (hB : BD l) {k45 k37 : HF → RO} : ∀ (m a N : Nat), a + m = n → m + 1 ≤ N → LX12_isLine_2 F 181 (n : Int) k45 k37 N (a : Int) h = if alB (fun a => decide (l.getD a 0 ≤ a) && decide (l.getD (l.getD a 0) 0 = l.getD a 0)) a m = true then k45 h else k37 h := by
  intro m
  induction m with
  | zero =>
    intro a N ha hN
    obtain ⟨N, rfl⟩ : ∃ M, N = M + 1 := ⟨N - 1, by omega⟩
    rw [LX12_isLine_2, if_neg (by omega)]
    rfl
  | succ m ih =>
    intro a N ha hN
    obtain ⟨N, rfl⟩ : ∃ M, N = M + 1 := ⟨N - 1, by omega⟩
    have hb := hB a
    rw [LX12_isLine_2, if_pos (by omega), rdm26 (by omega), hL a (by omega), if_neg (by omega), rdm26 (by omega), hL a (by omega), rdm26 (by omega), hL _ (by omega), rdm26 (by omega), hL a (by omega), zlet_eq, wr_s (by omega), ih (a + 1) N (by omega) (by omega), alB_s, decide_eq_true hb, Bool.true_and]
    by_cases q : l.getD (l.getD a 0) 0 = l.getD a 0
    · rw [if_pos (by omega), decide_eq_true q, Bool.true_and]
    · rw [if_neg (by omega), decide_eq_false q, Bool.false_and, if_neg (by decide)]
theorem isLine_eq (hF : 9 ≤ F) (hL : LN h 207 l) (hl : l.length = n) (hn : n ≤ 7) (hB : BD l) : fX12_isLine F 181 (n : Int) h = some (bi (lnB n l), h) := by
  unfold fX12_isLine
  simp only [zjn_eq]
  refine (isLine_L (F := F) hL hl hn hB (k45 := fun h => zrz 1 h) (k37 := fun h => zrz 0 h) n 0 F (by omega) (by omega)).trans ?_
  show (if lnB n l = true then zrz 1 h else zrz 0 h) = _
  cases lnB n l <;> rfl
theorem agree3_L (hd : d < 10) (hw : WF n ar tb) (hr : RepM h 184 185 186 187 d n ar tb) (hL : LN h 207 l) (hl : l.length = n) (hB : BD l) {o a : Nat} (ho : o < ar.length) (ha : a < rwN n (ar.getD o 0)) {k124 : Int → HF → RO} {k116 : HF → RO} : ∀ (m b N : Nat), b + m = clN n (ar.getD o 0) → m + 1 ≤ N → LX12_agrees_28 F 181 (d : Int) (o : Int) (a : Int) k124 k116 N (b : Int) h = if alB (fun b => decide (l.getD (vl tb n ar o a b) 0 = l.getD (vl tb n ar o (if 0 < ar.getD o 0 then l.getD a 0 else 0) (if 1 < ar.getD o 0 then l.getD b 0 else 0)) 0)) b m = true then k124 (a : Int) h else k116 h := by
  have hn := hw.1
  have hl4 := hw.2.1
  have h2 := hw.2.2.1 o ho
  have hle := rw_le (n := n) (r := ar.getD o 0) hn.1
  have ma := marityG (F := F) hd hl4 hr ho
  intro m
  induction m with
  | zero =>
    intro b N hb hN
    obtain ⟨N, rfl⟩ : ∃ M, N = M + 1 := ⟨N - 1, by omega⟩
    rw [LX12_agrees_28, upTo1 hd hw hr ho, zbd_some, if_neg (by omega)]
    rfl
  | succ m ih =>
    intro b N hb hN
    obtain ⟨N, rfl⟩ : ∃ M, N = M + 1 := ⟨N - 1, by omega⟩
    have hba := hB a
    have hbb := hB b
    have r1 : ∀ f : Int → RO, zrd h (181 + 26) (a : Int) f = f ((l.getD a 0 : Nat) : Int) := fun f => by rw [rdm26 (by omega), hL a (by omega)]
    have r2 : ∀ f : Int → RO, zrd h (181 + 26) (b : Int) f = f ((l.getD b 0 : Nat) : Int) := fun f => by rw [rdm26 (by omega), hL b (by omega)]
    have key : ∀ p q : Nat, p < n → q < n → (zbd (fX12_value F 181 (d : Int) (o : Int) (a : Int) (b : Int) h) fun r8 h => zrd h (181 + 26) r8 fun x9 => zbd (fX12_value F 181 (d : Int) (o : Int) (p : Int) (q : Int) h) fun r10 h => zrd h (181 + 26) r10 fun x11 => if x9 = x11 then LX12_agrees_28 F 181 (d : Int) (o : Int) (a : Int) k124 k116 N (wr ((b : Int) + 1)) h else k116 h) = if (decide (l.getD (vl tb n ar o a b) 0 = l.getD (vl tb n ar o p q) 0) && alB (fun b => decide (l.getD (vl tb n ar o a b) 0 = l.getD (vl tb n ar o (if 0 < ar.getD o 0 then l.getD a 0 else 0) (if 1 < ar.getD o 0 then l.getD b 0 else 0)) 0)) (b + 1) m) = true then k124 (a : Int) h else k116 h := by
      intro p q hp hq
      have v1 := (vl_eq hw ho (show a < n by omega) (show b < n by omega)).2
      have v2 := (vl_eq hw ho hp hq).2
      rw [mval hd hw hr ho (by omega) (by omega), zbd_some, rdm26 (by omega), hL _ (by omega), mval hd hw hr ho hp hq, zbd_some, rdm26 (by omega), hL _ (by omega), wr_s (by omega), ih (b + 1) N (by omega) (by omega)]
      by_cases z : l.getD (vl tb n ar o a b) 0 = l.getD (vl tb n ar o p q) 0
      · rw [if_pos (by omega), decide_eq_true z, Bool.true_and]
      · rw [if_neg (by omega), decide_eq_false z, Bool.false_and, if_neg (by decide)]
    rw [LX12_agrees_28, upTo1 hd hw hr ho, zbd_some, if_pos (by omega), ma, zbd_some, alB_s]
    simp only [zjn_eq, zlet_eq, ma, zbd_some, r1, r2]
    by_cases q0 : 0 < ar.getD o 0
    · rw [if_pos (show (0 : Int) < ((ar.getD o 0 : Nat) : Int) by omega), if_pos q0]
      by_cases q1 : 1 < ar.getD o 0
      · rw [if_pos (show (1 : Int) < ((ar.getD o 0 : Nat) : Int) by omega), if_pos q1]
        have := key (l.getD a 0) (l.getD b 0) (by omega) (by omega)
        rw [if_pos q0] at this
        exact this
      · rw [if_neg (show ¬ (1 : Int) < ((ar.getD o 0 : Nat) : Int) by omega), if_neg q1]
        have := key (l.getD a 0) 0 (by omega) (by omega)
        rw [if_pos q0] at this
        exact this
    · rw [if_neg (show ¬ (0 : Int) < ((ar.getD o 0 : Nat) : Int) by omega), if_neg q0, if_neg (show ¬ (1 : Int) < ((ar.getD o 0 : Nat) : Int) by omega), if_neg (show ¬ 1 < ar.getD o 0 by omega)]
      have := key 0 0 (by omega) (by omega)
      rw [if_neg q0] at this
      exact this
theorem agree2_L (hF : 9 ≤ F) (hd : d < 10) (hw : WF n ar tb) (hr : RepM h 184 185 186 187 d n ar tb) (hL : LN h 207 l) (hl : l.length = n) (hB : BD l) {o : Nat} (ho : o < ar.length) {k130 : Int → HF → RO} {k116 : HF → RO} : ∀ (m a N : Nat), a + m = rwN n (ar.getD o 0) → m + 1 ≤ N → LX12_agrees_14 F 181 (d : Int) (o : Int) k130 k116 N (a : Int) h = if alB (fun a => alB (fun b => decide (l.getD (vl tb n ar o a b) 0 = l.getD (vl tb n ar o (if 0 < ar.getD o 0 then l.getD a 0 else 0) (if 1 < ar.getD o 0 then l.getD b 0 else 0)) 0)) 0 (clN n (ar.getD o 0))) a m = true then k130 (o : Int) h else k116 h := by
  have hn := hw.1
  have hle := rw_le (n := n) (r := ar.getD o 0) hn.1
  intro m
  induction m with
  | zero =>
    intro a N ha hN
    obtain ⟨N, rfl⟩ : ∃ M, N = M + 1 := ⟨N - 1, by omega⟩
    rw [LX12_agrees_14, upTo0 hd hw hr ho, zbd_some, if_neg (by omega)]
    rfl
  | succ m ih =>
    intro a N ha hN
    obtain ⟨N, rfl⟩ : ∃ M, N = M + 1 := ⟨N - 1, by omega⟩
    rw [LX12_agrees_14, upTo0 hd hw hr ho, zbd_some, if_pos (by omega)]
    refine (agree3_L (F := F) hd hw hr hL hl hB ho (show a < rwN n (ar.getD o 0) by omega) (k124 := fun x124_3 h => LX12_agrees_14 F 181 (d : Int) (o : Int) k130 k116 N (wr (x124_3 + 1)) h) (clN n (ar.getD o 0)) 0 F (by omega) (by omega)).trans ?_
    rw [wr_s (by omega), ih (a + 1) N (by omega) (by omega), alB_s]
    generalize alB (fun b => decide (l.getD (vl tb n ar o a b) 0 = l.getD (vl tb n ar o (if 0 < ar.getD o 0 then l.getD a 0 else 0) (if 1 < ar.getD o 0 then l.getD b 0 else 0)) 0)) 0 (clN n (ar.getD o 0)) = w
    cases w <;> rfl
theorem agree1_L (hF : 9 ≤ F) (hd : d < 10) (hw : WF n ar tb) (hr : RepM h 184 185 186 187 d n ar tb) (hL : LN h 207 l) (hl : l.length = n) (hB : BD l) {k136 k116 : HF → RO} : ∀ (m o N : Nat), o + m = ar.length → m + 1 ≤ N → LX12_agrees_2 F 181 (d : Int) k136 k116 N (o : Int) h = if alB (fun o => alB (fun a => alB (fun b => decide (l.getD (vl tb n ar o a b) 0 = l.getD (vl tb n ar o (if 0 < ar.getD o 0 then l.getD a 0 else 0) (if 1 < ar.getD o 0 then l.getD b 0 else 0)) 0)) 0 (clN n (ar.getD o 0))) 0 (rwN n (ar.getD o 0))) o m = true then k136 h else k116 h := by
  have hn := hw.1
  have hl4 := hw.2.1
  intro m
  induction m with
  | zero =>
    intro o N ho hN
    obtain ⟨N, rfl⟩ : ∃ M, N = M + 1 := ⟨N - 1, by omega⟩
    rw [LX12_agrees_2, mops hd hr, if_neg (by omega)]
    rfl
  | succ m ih =>
    intro o N ho hN
    obtain ⟨N, rfl⟩ : ∃ M, N = M + 1 := ⟨N - 1, by omega⟩
    have hle := rw_le (n := n) (r := ar.getD o 0) hn.1
    rw [LX12_agrees_2, mops hd hr, if_pos (by omega)]
    refine (agree2_L (F := F) hF hd hw hr hL hl hB (show o < ar.length by omega) (k130 := fun x130_2 h => LX12_agrees_2 F 181 (d : Int) k136 k116 N (wr (x130_2 + 1)) h) (rwN n (ar.getD o 0)) 0 F (by omega) (by omega)).trans ?_
    rw [wr_s (by omega), ih (o + 1) N (by omega) (by omega), alB_s]
    generalize alB (fun a => alB (fun b => decide (l.getD (vl tb n ar o a b) 0 = l.getD (vl tb n ar o (if 0 < ar.getD o 0 then l.getD a 0 else 0) (if 1 < ar.getD o 0 then l.getD b 0 else 0)) 0)) 0 (clN n (ar.getD o 0))) 0 (rwN n (ar.getD o 0)) = w
    cases w <;> rfl
theorem agrees_eq (hF : 9 ≤ F) (hd : d < 10) (hw : WF n ar tb) (hr : RepM h 184 185 186 187 d n ar tb) (hL : LN h 207 l) (hl : l.length = n) (hB : BD l) : fX12_agrees F 181 (d : Int) h = some (bi (agB tb n ar l), h) := by
  have hl4 := hw.2.1
  unfold fX12_agrees
  simp only [zjn_eq]
  refine (agree1_L (F := F) hF hd hw hr hL hl hB (k136 := fun h => zrz 1 h) (k116 := fun h => zrz 0 h) ar.length 0 F (by omega) (by omega)).trans ?_
  show (if agB tb n ar l = true then zrz 1 h else zrz 0 h) = _
  cases agB tb n ar l <;> rfl
end CO
