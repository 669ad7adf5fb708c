/-! partitions as lines: how both sides go from one to the next -/
def nxM : Nat → List Nat → Option (List Nat)
  | 0, _ => none
  | a + 1, l => if l.getD a 0 = a then nxM a (l.set a 0) else some (l.set a (l.getD a 0 + 1))
def ldr (l : List Nat) : Nat → Nat → Nat
  | 0, v => v
  | m + 1, v => if l.getD v 0 = v then v else ldr l m (v + 1)
def nxC : Nat → List Nat → Option (List Nat)
  | 0, _ => none
  | e + 1, l => if l.getD (e + 1) 0 = e + 1 then nxC e (l.set (e + 1) 0) else some (l.set (e + 1) (ldr l (e + 1 - (l.getD (e + 1) 0 + 1)) (l.getD (e + 1) 0 + 1)))
def sq (nx : List Nat → Option (List Nat)) : Nat → List Nat → List (List Nat)
  | 0, _ => []
  | m + 1, l => l :: (match nx l with
    | none => []
    | some l' => sq nx m l')
def sqE (nx : List Nat → Option (List Nat)) : Nat → List Nat → Bool
  | 0, _ => false
  | m + 1, l => match nx l with
    | none => true
    | some l' => sqE nx m l'
def lnB (n : Nat) (l : List Nat) : Bool := alB (fun a => decide (l.getD a 0 ≤ a) && decide (l.getD (l.getD a 0) 0 = l.getD a 0)) 0 n
set_option maxRecDepth 100000 in
theorem sq_fil : ∀ n, n < 8 → 1 ≤ n → (sq (nxM n) 5040 (List.replicate n 0)).filter (lnB n) = sq (nxC (n - 1)) 877 (List.replicate n 0) := by decide +kernel
set_option maxRecDepth 100000 in
theorem sq_endM : ∀ n, n < 8 → 1 ≤ n → sqE (nxM n) 5040 (List.replicate n 0) = true := by decide +kernel
set_option maxRecDepth 100000 in
theorem sq_endC : ∀ n, n < 8 → 1 ≤ n → sqE (nxC (n - 1)) 877 (List.replicate n 0) = true := by decide +kernel
/-- the line l stands in the cell c -/
def LN (h : HF) (c : Nat) (l : List Nat) : Prop := ∀ i, i < l.length → h c i = ((l.getD i 0 : Nat) : Int)
theorem gset {l : List Nat} {a i v : Nat} (ha : a < l.length) : (l.set a v).getD i 0 = if i = a then v else l.getD i 0 := by
  rw [List.getD_eq_getElem?_getD, List.getD_eq_getElem?_getD, List.getElem?_set]
  by_cases q : i = a
  · subst q; rw [if_pos rfl, if_pos ha, if_pos rfl]; rfl
  · rw [if_neg (Ne.symm q), if_neg q]
theorem LN_set {h : HF} {c a v : Nat} {l : List Nat} (ha : a < l.length) (hl : LN h c l) : LN (stp h c a (v : Int)) c (l.set a v) := by
  intro i hi
  rw [List.length_set] at hi
  rw [gset ha]
  by_cases q : i = a
  · subst q; rw [stp_eq, if_pos rfl]
  · rw [stp_ne (Or.inr q), if_neg q]; exact hl i hi
theorem LN_keep {h h' : HF} {c : Nat} {l : List Nat} (e : ∀ i, h' c i = h c i) (hl : LN h c l) : LN h' c l := fun i hi => by rw [e]; exact hl i hi
def BD (l : List Nat) : Prop := ∀ i, l.getD i 0 ≤ i
theorem BD_set {l : List Nat} {a v : Nat} (ha : a < l.length) (hv : v ≤ a) (hb : BD l) : BD (l.set a v) := by
  intro i
  rw [gset ha]
  by_cases q : i = a
  · rw [if_pos q]; omega
  · rw [if_neg q]; exact hb i
theorem nxM_len : ∀ (a : Nat) (l l' : List Nat), a ≤ l.length → BD l → nxM a l = some l' → l'.length = l.length ∧ BD l'
  | 0, l, l', _, _, e => by simp [nxM] at e
  | a + 1, l, l', ha, hb, e => by
    simp only [nxM] at e
    by_cases q : l.getD a 0 = a
    · rw [if_pos q] at e
      obtain ⟨h1, h2⟩ := nxM_len a (l.set a 0) l' (by rw [List.length_set]; omega) (BD_set (by omega) (by omega) hb) e
      rw [List.length_set] at h1
      exact ⟨h1, h2⟩
    · rw [if_neg q] at e
      have := hb a
      obtain rfl : l.set a (l.getD a 0 + 1) = l' := by simpa using e
      exact ⟨List.length_set, BD_set (by omega) (by omega) hb⟩
theorem ldr_le {l : List Nat} : ∀ (m v : Nat), ldr l m v ≤ v + m ∧ v ≤ ldr l m v
  | 0, v => ⟨Nat.le_refl _, Nat.le_refl _⟩
  | m + 1, v => by
    simp only [ldr]
    by_cases q : l.getD v 0 = v
    · rw [if_pos q]; omega
    · rw [if_neg q]
      have := ldr_le (l := l) m (v + 1)
      omega
theorem nxC_len : ∀ (a : Nat) (l l' : List Nat), a < l.length → BD l → nxC a l = some l' → l'.length = l.length ∧ BD l'
  | 0, l, l', _, _, e => by simp [nxC] at e
  | a + 1, l, l', ha, hb, e => by
    simp only [nxC] at e
    by_cases q : l.getD (a + 1) 0 = a + 1
    · rw [if_pos q] at e
      obtain ⟨h1, h2⟩ := nxC_len a (l.set (a + 1) 0) l' (by rw [List.length_set]; omega) (BD_set (by omega) (by omega) hb) e
      rw [List.length_set] at h1
      exact ⟨h1, h2⟩
    · rw [if_neg q] at e
      have := hb (a + 1)
      have hle := ldr_le (l := l) (a + 1 - (l.getD (a + 1) 0 + 1)) (l.getD (a + 1) 0 + 1)
      obtain rfl : l.set (a + 1) (ldr l (a + 1 - (l.getD (a + 1) 0 + 1)) (l.getD (a + 1) 0 + 1)) = l' := by simpa using e
      exact ⟨List.length_set, BD_set (by omega) (by omega) hb⟩
theorem nextLine_L {F : Nat} : ∀ (a N : Nat) (h : HF) (l : List Nat), a ≤ l.length → l.length ≤ 7 → a + 1 ≤ N → LN h 207 l → BD l → ∃ h', LX12_nextLine_4 F 181 (fun (x31_2 : Int) (h : HF) => if x31_2 < 0 then zrz 0 h else zrd h (181 + 26) x31_2 fun x2 => zwr h (181 + 26) x31_2 (wr (x2 + 1)) fun h => zrz 1 h) N ((a : Int) - 1) h = some (bi (nxM a l).isSome, h') ∧ (∀ l', nxM a l = some l' → LN h' 207 l') ∧ ∀ c i, c ≠ 207 → h' c i = h c i := by
  intro a
  induction a with
  | zero =>
    intro N h l ha hl hN hL hB
    obtain ⟨N, rfl⟩ : ∃ M, N = M + 1 := ⟨N - 1, by omega⟩
    rw [LX12_nextLine_4, if_pos (by omega)]
    refine ⟨h, ?_, fun l' e => by simp [nxM] at e, fun _ _ _ => rfl⟩
    show (if ((0 : Nat) : Int) - 1 < 0 then zrz 0 h else _) = _
    rw [if_pos (by omega)]
    rfl
  | succ a ih =>
    intro N h l ha hl hN hL hB
    obtain ⟨N, rfl⟩ : ∃ M, N = M + 1 := ⟨N - 1, by omega⟩
    have hb := hB a
    rw [LX12_nextLine_4, if_neg (by omega), show ((a + 1 : Nat) : Int) - 1 = (a : Int) by omega, rdm26 (by omega), hL a (by omega)]
    simp only [nxM]
    by_cases q : l.getD a 0 = a
    · rw [if_pos (by omega), if_pos q, wtm26 (by omega), zlet_eq, wr_id ⟨by omega, by omega⟩, show (a : Int) + (-1) = (a : Int) - 1 by omega]
      obtain ⟨h', x1, x2, x3⟩ := ih N (stp h 207 a 0) (l.set a 0) (by rw [List.length_set]; omega) (by rw [List.length_set]; omega) (by omega) (LN_set (v := 0) (by omega) hL) (BD_set (by omega) (by omega) hB)
      exact ⟨h', x1, x2, fun c i hc => by rw [x3 c i hc, stp_ne (Or.inl hc)]⟩
    · rw [if_neg (by omega), if_neg q]
      refine ⟨stp h 207 a ((l.getD a 0 + 1 : Nat) : Int), ?_, fun l' e => ?_, fun c i hc => stp_ne (Or.inl hc)⟩
      · show (if (a : Int) < 0 then zrz 0 h else zrd h (181 + 26) (a : Int) fun x2 => zwr h (181 + 26) (a : Int) (wr (x2 + 1)) fun h => zrz 1 h) = _
        rw [if_neg (by omega), rdm26 (by omega), hL a (by omega), wr_s (by omega), wtm26 (by omega)]
        rfl
      · obtain rfl : l.set a (l.getD a 0 + 1) = l' := by simpa using e
        exact LN_set (by omega) hL
theorem nextLine_eq {F : Nat} {h : HF} {l : List Nat} (hF : 9 ≤ F) (hl : l.length ≤ 7) (hL : LN h 207 l) (hB : BD l) : ∃ h', fX12_nextLine F 181 (l.length : Int) h = some (bi (nxM l.length l).isSome, h') ∧ (∀ l', nxM l.length l = some l' → LN h' 207 l') ∧ ∀ c i, c ≠ 207 → h' c i = h c i := by
  obtain ⟨h', x1, x2, x3⟩ := nextLine_L (F := F) l.length F h l (Nat.le_refl _) hl (by omega) hL hB
  refine ⟨h', ?_, x2, x3⟩
  unfold fX12_nextLine
  simp only [zjn_eq, zlet_eq]
  rw [wr_id ⟨by omega, by omega⟩]
  exact x1
theorem ldr_L {F e : Nat} {h : HF} {l : List Nat} {k : Int → Int → HF → RO} (hl : l.length ≤ 7) (he : e < l.length) (hL : LN h 96 l) : ∀ (m v N : Nat), v + m = e → m + 1 ≤ N → LX2_nextPartition_33 F 94 (e : Int) k N (v : Int) h = k (e : Int) ((ldr l m v : Nat) : Int) h := by
  have k6 : kl 96 = 7 := by decide +kernel
  intro m
  induction m with
  | zero =>
    intro v N hv hN
    obtain ⟨N, rfl⟩ : ∃ M, N = M + 1 := ⟨N - 1, by omega⟩
    rw [LX2_nextPartition_33, if_neg (by omega)]
    rfl
  | succ m ih =>
    intro v N hv hN
    obtain ⟨N, rfl⟩ : ∃ M, N = M + 1 := ⟨N - 1, by omega⟩
    rw [LX2_nextPartition_33, if_pos (by omega), zrd_ok (a := 94 + 2) ⟨by omega, by rw [show kl (94 + 2) = 7 from k6]; omega⟩, Int.toNat_natCast, show h (94 + 2) v = _ from hL v (by omega)]
    simp only [ldr]
    by_cases q : l.getD v 0 = v
    · rw [if_pos (by omega), if_pos q]
    · rw [if_neg (by omega), if_neg q, zlet_eq, wr_s (by omega), ih (v + 1) N (by omega) (by omega)]
theorem nextPart_L {F : Nat} (hF : 9 ≤ F) : ∀ (e N : Nat) (h : HF) (l : List Nat), e < l.length → l.length ≤ 7 → e + 1 ≤ N → LN h 96 l → BD l → ∃ h', LX2_nextPartition_10 F 94 (fun h => zrz 0 h) (fun (x24_1 : Int) (h : HF) => zrd h (94 + 2) x24_1 fun x4 => LX2_nextPartition_33 F 94 x24_1 (fun (x54_1 : Int) (x54_2 : Int) (h : HF) => zwr h (94 + 2) x54_1 x54_2 fun h => zrz 1 h) F (wr (x4 + 1)) h) N (e : Int) h = some (bi (nxC e l).isSome, h') ∧ (∀ l', nxC e l = some l' → LN h' 96 l') ∧ ∀ c i, c ≠ 96 → h' c i = h c i := by
  have k6 : kl 96 = 7 := by decide +kernel
  intro e
  induction e with
  | zero =>
    intro N h l he hl hN hL hB
    obtain ⟨N, rfl⟩ : ∃ M, N = M + 1 := ⟨N - 1, by omega⟩
    rw [LX2_nextPartition_10, if_neg (by omega)]
    exact ⟨h, rfl, fun l' e => by simp [nxC] at e, fun _ _ _ => rfl⟩
  | succ e ih =>
    intro N h l he hl hN hL hB
    obtain ⟨N, rfl⟩ : ∃ M, N = M + 1 := ⟨N - 1, by omega⟩
    have hb := hB (e + 1)
    have rd : ∀ f : Int → RO, zrd h (94 + 2) ((e + 1 : Nat) : Int) f = f ((l.getD (e + 1) 0 : Nat) : Int) := fun f => by rw [zrd_ok (a := 94 + 2) ⟨by omega, by rw [show kl (94 + 2) = 7 from k6]; omega⟩, Int.toNat_natCast, show h (94 + 2) (e + 1) = _ from hL (e + 1) (by omega)]
    rw [LX2_nextPartition_10, if_pos (by omega), rd]
    simp only [nxC]
    by_cases q : l.getD (e + 1) 0 = e + 1
    · rw [if_pos (by omega), if_pos q, zwr_ok (a := 94 + 2) ⟨by omega, by rw [show kl (94 + 2) = 7 from k6]; omega⟩, Int.toNat_natCast, zlet_eq, wr_id ⟨by omega, by omega⟩, show ((e + 1 : Nat) : Int) + (-1) = (e : Int) by omega]
      obtain ⟨h', x1, x2, x3⟩ := ih N (stp h 96 (e + 1) 0) (l.set (e + 1) 0) (by rw [List.length_set]; omega) (by rw [List.length_set]; omega) (by omega) (LN_set (v := 0) (by omega) hL) (BD_set (by omega) (by omega) hB)
      exact ⟨h', x1, x2, fun c i hc => by rw [x3 c i hc, stp_ne (Or.inl hc)]⟩
    · have hle := ldr_le (l := l) (e + 1 - (l.getD (e + 1) 0 + 1)) (l.getD (e + 1) 0 + 1)
      rw [if_neg (by omega), if_neg q]
      refine ⟨stp h 96 (e + 1) ((ldr l (e + 1 - (l.getD (e + 1) 0 + 1)) (l.getD (e + 1) 0 + 1) : Nat) : Int), ?_, fun l' e' => ?_, fun c i hc => stp_ne (Or.inl hc)⟩
      · show (zrd h (94 + 2) ((e + 1 : Nat) : Int) fun x4 => LX2_nextPartition_33 F 94 ((e + 1 : Nat) : Int) (fun (x54_1 : Int) (x54_2 : Int) (h : HF) => zwr h (94 + 2) x54_1 x54_2 fun h => zrz 1 h) F (wr (x4 + 1)) h) = _
        rw [rd, wr_s (by omega), ldr_L (F := F) hl (by omega) hL (e + 1 - (l.getD (e + 1) 0 + 1)) (l.getD (e + 1) 0 + 1) F (by omega) (by omega)]
        show (zwr h (94 + 2) ((e + 1 : Nat) : Int) _ fun h => zrz 1 h) = _
        rw [zwr_ok (a := 94 + 2) ⟨by omega, by rw [show kl (94 + 2) = 7 from k6]; omega⟩, Int.toNat_natCast]
        rfl
      · obtain rfl : l.set (e + 1) (ldr l (e + 1 - (l.getD (e + 1) 0 + 1)) (l.getD (e + 1) 0 + 1)) = l' := by simpa using e'
        exact LN_set (by omega) hL
theorem zgd_at {h : HF} {a k v : Nat} {f : Nat → RO} (e : h a k = (v : Int)) : zgd h a k f = f v := by
  unfold zgd
  rw [e, if_pos (by omega), Int.toNat_natCast]
theorem nextPart_eq {F A : Nat} {h : HF} {l : List Nat} (hF : 9 ≤ F) (hl : l.length ≤ 7) (hl1 : 1 ≤ l.length) (hA : h 94 4 = (A : Int)) (h0 : h A 0 = (l.length : Int)) (hL : LN h 96 l) (hB : BD l) : ∃ h', fX2_nextPartition F 94 h = some (bi (nxC (l.length - 1) l).isSome, h') ∧ (∀ l', nxC (l.length - 1) l = some l' → LN h' 96 l') ∧ ∀ c i, c ≠ 96 → h' c i = h c i := by
  obtain ⟨h', x1, x2, x3⟩ := nextPart_L (F := F) hF (l.length - 1) F h l (by omega) hl (by omega) hL hB
  refine ⟨h', ?_, x2, x3⟩
  unfold fX2_nextPartition
  simp only [zjn_eq, zlet_eq, zgf]
  rw [zgd_at hA, h0, wr_id ⟨by omega, by omega⟩, show (l.length : Int) - 1 = ((l.length - 1 : Nat) : Int) by omega]
  exact x1
