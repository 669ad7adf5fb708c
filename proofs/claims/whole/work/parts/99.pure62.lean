/-! laws: the signs of a text -/
theorem fill0_L {F a n : Nat} {v : Int} {k : HF → RO} (hn : kl a = n) (h4 : n < 100000) : ∀ (m i N : Nat) (h : HF), i + m = n → m + 1 ≤ N → LJ7_fill_53178_5 F a v (n : Int) k N (i : Int) h = k (fil h a i m v) := by
  intro m
  induction m with
  | zero =>
    intro i N h hi hN
    obtain ⟨N, rfl⟩ : ∃ M, N = M + 1 := ⟨N - 1, by omega⟩
    rw [LJ7_fill_53178_5, if_neg (by omega), fil_0]
  | succ m ih =>
    intro i N h hi hN
    obtain ⟨N, rfl⟩ : ∃ M, N = M + 1 := ⟨N - 1, by omega⟩
    rw [LJ7_fill_53178_5, if_pos (by omega), zwr_ok (a := a) ⟨by omega, by omega⟩, Int.toNat_natCast, zlet_eq, wr_s (by omega), ih (i + 1) N _ (by omega) (by omega), fil_succ]
theorem fill0_eq {F a n : Nat} {v : Int} {h : HF} (hn : kl a = n) (h4 : n < 100000) (hF : n + 1 ≤ F) : fJ7_fill_53178 F a v h = some (0, fil h a 0 n v) := by
  unfold fJ7_fill_53178
  rw [zlet_eq, zjn_eq, hn]
  exact fill0_L hn h4 n 0 F h (by omega) (by omega)
/-- the first byte from p on that is no blank -/
def nx0 (t : List Int) : Nat → Nat → Nat
  | 0, p => p
  | f + 1, p => if bA t p = 32 ∨ bA t p = 10 then nx0 t f (p + 1) else p
def nxt (t : List Int) (p : Nat) : Nat := nx0 t (t.length - p) p
theorem nxt_yes {t : List Int} {p : Nat} (hp : p < t.length) (q : bA t p = 32 ∨ bA t p = 10) : nxt t p = nxt t (p + 1) := by
  unfold nxt
  rw [show t.length - p = (t.length - (p + 1)) + 1 by omega]
  show (if _ then _ else _) = _
  rw [if_pos q]
theorem nxt_no {t : List Int} {p : Nat} (q : ¬ (bA t p = 32 ∨ bA t p = 10)) : nxt t p = p := by
  unfold nxt
  cases t.length - p with
  | zero => rfl
  | succ f =>
    show (if _ then _ else _) = _
    rw [if_neg q]
theorem bA_end {t : List Int} {p : Nat} (hp : t.length ≤ p) : bA t p = -1 := if_neg (by omega)
theorem nxt_end {t : List Int} {p : Nat} (hp : t.length ≤ p) : nxt t p = p := nxt_no (by rw [bA_end hp]; decide)
theorem nxt_le {t : List Int} : ∀ (f p : Nat), f + p = t.length → p ≤ nxt t p ∧ nxt t p ≤ t.length
  | 0, p, h => by rw [nxt_end (by omega)]; omega
  | f + 1, p, h => by
    by_cases q : bA t p = 32 ∨ bA t p = 10
    · rw [nxt_yes (by omega) q]
      have := nxt_le (t := t) f (p + 1) (by omega)
      omega
    · rw [nxt_no q]; omega
/-- the place of sign i, and the sign -/
def pl (t : List Int) : Nat → Nat
  | 0 => nxt t 0
  | i + 1 => nxt t (pl t i + 1)
def sn (t : List Int) (i : Nat) : Int := bA t (pl t i)
/-- the signs as the class has them: m of them, then the end -/
def SG (h : HF) (t : List Int) (m : Nat) : Prop := ∀ j, j ≤ m → h 87 j = sn t j ∧ h 88 j = (pl t j : Int)
theorem k87 : kl 87 = 401 := by decide +kernel
theorem k88 : kl 88 = 401 := by decide +kernel
theorem k89 : kl 89 = 80 := by decide +kernel
theorem k90 : kl 90 = 4 := by decide +kernel
theorem rd87 {h : HF} {i : Nat} {f : Int → RO} (hi : i < 401) : zrd h (86 + 1) (i : Int) f = f (h 87 i) := by rw [zrd_ok (a := 86 + 1) ⟨by omega, by rw [show kl (86 + 1) = 401 from k87]; omega⟩, Int.toNat_natCast]
theorem rd88 {h : HF} {i : Nat} {f : Int → RO} (hi : i < 401) : zrd h (86 + 2) (i : Int) f = f (h 88 i) := by rw [zrd_ok (a := 86 + 2) ⟨by omega, by rw [show kl (86 + 2) = 401 from k88]; omega⟩, Int.toNat_natCast]
theorem rd89 {h : HF} {i : Nat} {f : Int → RO} (hi : i < 80) : zrd h (86 + 3) (i : Int) f = f (h 89 i) := by rw [zrd_ok (a := 86 + 3) ⟨by omega, by rw [show kl (86 + 3) = 80 from k89]; omega⟩, Int.toNat_natCast]
theorem rd90 {h : HF} {i : Nat} {f : Int → RO} (hi : i < 4) : zrd h (86 + 4) (i : Int) f = f (h 90 i) := by rw [zrd_ok (a := 86 + 4) ⟨by omega, by rw [show kl (86 + 4) = 4 from k90]; omega⟩, Int.toNat_natCast]
theorem wt87 {h : HF} {i : Nat} {v : Int} {f : HF → RO} (hi : i < 401) : zwr h (86 + 1) (i : Int) v f = f (stp h 87 i v) := by rw [zwr_ok (a := 86 + 1) ⟨by omega, by rw [show kl (86 + 1) = 401 from k87]; omega⟩, Int.toNat_natCast]
theorem wt88 {h : HF} {i : Nat} {v : Int} {f : HF → RO} (hi : i < 401) : zwr h (86 + 2) (i : Int) v f = f (stp h 88 i v) := by rw [zwr_ok (a := 86 + 2) ⟨by omega, by rw [show kl (86 + 2) = 401 from k88]; omega⟩, Int.toNat_natCast]
theorem wt89 {h : HF} {i : Nat} {v : Int} {f : HF → RO} (hi : i < 80) : zwr h (86 + 3) (i : Int) v f = f (stp h 89 i v) := by rw [zwr_ok (a := 86 + 3) ⟨by omega, by rw [show kl (86 + 3) = 80 from k89]; omega⟩, Int.toNat_natCast]
theorem wt90 {h : HF} {i : Nat} {v : Int} {f : HF → RO} (hi : i < 4) : zwr h (86 + 4) (i : Int) v f = f (stp h 90 i v) := by rw [zwr_ok (a := 86 + 4) ⟨by omega, by rw [show kl (86 + 4) = 4 from k90]; omega⟩, Int.toNat_natCast]
theorem gath_s {F : Nat} {t : List Int} (hl : t.length ≤ 400) {k : Int → HF → RO} : ∀ (m i g N : Nat) (h : HF), i + m = t.length → m + 1 ≤ N → g ≤ i → nxt t i = pl t g → (∀ j, j < g → h 87 j = sn t j ∧ h 88 j = (pl t j : Int) ∧ pl t j < t.length) → h 86 2 = ((1 : Nat) : Int) → TP h 1 1 2 t → ∃ (h' : HF) (g' : Nat), LX10_gatherSigns_4 F 86 k N (g : Int) (i : Int) h = k (g' : Int) h' ∧ g' ≤ 400 ∧ pl t g' = t.length ∧ (∀ j, j < g' → h' 87 j = sn t j ∧ h' 88 j = (pl t j : Int) ∧ pl t j < t.length) ∧ ∀ c i, c ≠ 87 → c ≠ 88 → h' c i = h c i := by
  intro m
  induction m with
  | zero =>
    intro i g N h hi hN hg e hs h2 ht
    obtain ⟨N, rfl⟩ : ∃ M, N = M + 1 := ⟨N - 1, by omega⟩
    refine ⟨h, g, ?_, by omega, ?_, hs, fun _ _ _ _ => rfl⟩
    · rw [LX10_gatherSigns_4, zgd_at h2]
      simp only [zgf]
      rw [ht.1, if_neg (by omega)]
    · rw [← e, nxt_end (by omega)]; omega
  | succ m ih =>
    intro i g N h hi hN hg e hs h2 ht
    obtain ⟨N, rfl⟩ : ∃ M, N = M + 1 := ⟨N - 1, by omega⟩
    have st : LX10_gatherSigns_4 F 86 k (N + 1) (g : Int) (i : Int) h = if bA t i = 32 then LX10_gatherSigns_4 F 86 k N (g : Int) ((i + 1 : Nat) : Int) h else if bA t i = 10 then LX10_gatherSigns_4 F 86 k N (g : Int) ((i + 1 : Nat) : Int) h else LX10_gatherSigns_4 F 86 k N ((g + 1 : Nat) : Int) ((i + 1 : Nat) : Int) (stp (stp h 87 g (bA t i)) 88 g (i : Int)) := by
      rw [LX10_gatherSigns_4, zgd_at h2]
      simp only [zgf]
      rw [ht.1, if_pos (by omega), zgd_at h2, byteAt_c ht hl, zbd_some]
      simp only [zjn_eq, zlet_eq]
      rw [wr_s (by omega), wr_s (by omega), wt87 (by omega), wt88 (by omega)]
    rw [st]
    by_cases q : bA t i = 32 ∨ bA t i = 10
    · have e' : nxt t (i + 1) = pl t g := by rw [← nxt_yes (by omega) q]; exact e
      have r := ih (i + 1) g N h (by omega) (by omega) (by omega) e' hs h2 ht
      rcases q with q | q
      · rw [if_pos q]; exact r
      · rw [if_neg (by rw [q]; decide), if_pos q]; exact r
    · have e2 : i = pl t g := by rw [← e, nxt_no q]
      rw [if_neg (fun z => q (Or.inl z)), if_neg (fun z => q (Or.inr z))]
      obtain ⟨h', g', x1, x2, x3, x4, x5⟩ := ih (i + 1) (g + 1) N (stp (stp h 87 g (bA t i)) 88 g (i : Int)) (by omega) (by omega) (by omega) (by show _ = nxt t (pl t g + 1); rw [← e2]) (fun j hj => by
        by_cases z : j = g
        · subst z
          rw [stp_ne (by omega), stp_eq, stp_eq]
          refine ⟨?_, ?_, by omega⟩
          · unfold sn; rw [← e2]
          · rw [← e2]
        · rw [stp_ne (by omega), stp_ne (by omega), stp_ne (by omega), stp_ne (by omega)]
          exact hs j (by omega)) (by rw [stp_ne (by omega), stp_ne (by omega)]; exact h2) (TP_keep ht (by rw [stp_ne (by omega), stp_ne (by omega)]) (fun i => by rw [stp_ne (by omega), stp_ne (by omega)]))
      exact ⟨h', g', x1, x2, x3, x4, fun c i z w => by rw [x5 c i z w, stp_ne (by omega), stp_ne (by omega)]⟩
theorem gather_s {F : Nat} {t : List Int} {h : HF} (hF : 402 ≤ F) (hl : t.length ≤ 400) (h2 : h 86 2 = ((1 : Nat) : Int)) (ht : TP h 1 1 2 t) : ∃ (h' : HF) (m : Nat), fX10_gatherSigns F 86 h = some (0, h') ∧ m ≤ 400 ∧ pl t m = t.length ∧ (∀ j, j < m → pl t j < t.length) ∧ SG h' t m ∧ ∀ c i, c ≠ 87 → c ≠ 88 → h' c i = h c i := by
  obtain ⟨h', g', x1, x2, x3, x4, x5⟩ := gath_s (F := F) hl (k := fun (x59_1 : Int) (h : HF) => zwr h (86 + 1) x59_1 (-1) fun h => zgd h 86 2 fun x1 => zgf h x1 1 fun x2 => zwr h (86 + 2) x59_1 x2 fun h => some (0, h)) t.length 0 0 F h (by omega) (by omega) (by omega) rfl (fun j hj => absurd hj (by omega)) h2 ht
  refine ⟨stp (stp h' 87 g' (-1)) 88 g' (t.length : Int), g', ?_, x2, x3, fun j hj => (x4 j hj).2.2, fun j hj => ?_, fun c i z w => by rw [stp_ne (by omega), stp_ne (by omega), x5 c i z w]⟩
  · unfold fX10_gatherSigns
    rw [zjn_eq]
    refine x1.trans ?_
    show zwr h' (86 + 1) (g' : Int) (-1) _ = _
    rw [wt87 (by omega), zgd_at (v := 1) (by rw [stp_ne (by omega), x5 _ _ (by omega) (by omega)]; exact h2)]
    simp only [zgf]
    rw [stp_ne (by omega), x5 _ _ (by omega) (by omega), ht.1, wt88 (by omega)]
  · by_cases z : j = g'
    · subst z
      rw [stp_ne (by omega), stp_eq, stp_eq]
      refine ⟨?_, by rw [x3]⟩
      unfold sn
      rw [x3, bA_end (Nat.le_refl _)]
    · rw [stp_ne (by omega), stp_ne (by omega), stp_ne (by omega), stp_ne (by omega)]
      exact ⟨(x4 j (by omega)).1, (x4 j (by omega)).2.1⟩
/-- the reference: on to the next sign -/
theorem next_L {F : Nat} {t : List Int} (hl : t.length ≤ 400) {k : HF → RO} : ∀ (f p N : Nat) (h : HF), f + p = t.length → f + 1 ≤ N → h 181 32 = (p : Int) → h 181 31 = (t.length : Int) → (∀ i, i < t.length → h 182 i = t.getD i 0) → ∃ h', LX12_nextSign_0 F 181 k N h = k h' ∧ h' 181 32 = (nxt t p : Int) ∧ ∀ c i, (c ≠ 181 ∨ i ≠ 32) → h' c i = h c i := by
  intro f
  induction f with
  | zero =>
    intro p N h hf hN h1 h2 hb
    obtain ⟨N, rfl⟩ : ∃ M, N = M + 1 := ⟨N - 1, by omega⟩
    refine ⟨h, ?_, by rw [nxt_end (by omega)]; exact h1, fun _ _ _ => rfl⟩
    rw [LX12_nextSign_0]
    simp only [zgf]
    rw [h1, h2, if_neg (by omega)]
  | succ f ih =>
    intro p N h hf hN h1 h2 hb
    obtain ⟨N, rfl⟩ : ∃ M, N = M + 1 := ⟨N - 1, by omega⟩
    have eb : h 182 p = bA t p := by unfold bA; rw [if_pos (by omega)]; exact hb p (by omega)
    have st : LX12_nextSign_0 F 181 k (N + 1) h = if bA t p = 32 then LX12_nextSign_0 F 181 k N (stp h 181 32 ((p + 1 : Nat) : Int)) else if bA t p = 10 then LX12_nextSign_0 F 181 k N (stp h 181 32 ((p + 1 : Nat) : Int)) else k h := by
      rw [LX12_nextSign_0]
      simp only [zgf, zpf, zjn_eq]
      rw [h1, h2, if_pos (by omega), rdm1 (by omega), rdm1 (by omega), eb, wr_s (by omega)]
    rw [st]
    by_cases q : bA t p = 32 ∨ bA t p = 10
    · obtain ⟨h', x1, x2, x3⟩ := ih (p + 1) N (stp h 181 32 ((p + 1 : Nat) : Int)) (by omega) (by omega) (stp_eq _ _ _ _) (by rw [stp_ne (by omega)]; exact h2) (fun i hi => by rw [stp_ne (by omega)]; exact hb i hi)
      have r : ∃ h', LX12_nextSign_0 F 181 k N (stp h 181 32 ((p + 1 : Nat) : Int)) = k h' ∧ h' 181 32 = (nxt t p : Int) ∧ ∀ c i, (c ≠ 181 ∨ i ≠ 32) → h' c i = h c i := ⟨h', x1, by rw [nxt_yes (by omega) q]; exact x2, fun c i z => by rw [x3 c i z, stp_ne z]⟩
      rcases q with q | q
      · rw [if_pos q]; exact r
      · rw [if_neg (by rw [q]; decide), if_pos q]; exact r
    · rw [if_neg (fun z => q (Or.inl z)), if_neg (fun z => q (Or.inr z))]
      exact ⟨h, rfl, by rw [nxt_no q]; exact h1, fun _ _ _ => rfl⟩
theorem next_eq {F p : Nat} {t : List Int} {h : HF} (hF : 402 ≤ F) (hl : t.length ≤ 400) (hp : p ≤ t.length) (h1 : h 181 32 = (p : Int)) (h2 : h 181 31 = (t.length : Int)) (hb : ∀ i, i < t.length → h 182 i = t.getD i 0) : ∃ h', fX12_nextSign F 181 h = some (0, h') ∧ h' 181 33 = bA t (nxt t p) ∧ h' 181 34 = (nxt t p : Int) ∧ h' 181 32 = ((nxt t p + 1 : Nat) : Int) ∧ ∀ c i, (c ≠ 181 ∨ (i ≠ 32 ∧ i ≠ 33 ∧ i ≠ 34)) → h' c i = h c i := by
  unfold fX12_nextSign
  rw [zjn_eq]
  obtain ⟨g, x1, x2, x3⟩ := next_L (F := F) hl (k := fun (h : HF) => zgf h 181 32 fun x1 => zpf h 181 34 x1 fun h => zgf h 181 32 fun x2 => zgf h 181 31 fun x3 => zjn (fun (y85_0 : Int) (y85_1 : Nat) (h : HF) => (zpf h y85_1 33 y85_0 fun h => zgf h 181 32 fun x4 => zpf h 181 32 (wr (x4 + 1)) fun h => some (0, h))) fun j85 => if x2 < x3 then (zgf h 181 32 fun x5 => zrd h (181 + 1) x5 fun x6 => j85 x6 181 h) else (j85 (-1) 181 h)) (t.length - p) p F h (by omega) (by omega) h1 h2 hb
  have hn := nxt_le (t := t) (t.length - p) p (by omega)
  refine ⟨stp (stp (stp g 181 34 (nxt t p : Int)) 181 33 (bA t (nxt t p))) 181 32 ((nxt t p + 1 : Nat) : Int), ?_, by rw [stp_ne (by omega), stp_eq], by rw [stp_ne (by omega), stp_ne (by omega), stp_eq], stp_eq _ _ _ _, fun c i z => by rw [stp_ne (by omega), stp_ne (by omega), stp_ne (by omega), x3 c i (by omega)]⟩
  refine x1.trans ?_
  simp only [zgf, zpf, zjn_eq]
  have e1 : stp g 181 34 (g 181 32) 181 32 = (nxt t p : Int) := by rw [stp_ne (by omega)]; exact x2
  have e2 : stp g 181 34 (g 181 32) 181 31 = (t.length : Int) := by rw [stp_ne (by omega), x3 _ _ (by omega)]; exact h2
  rw [e1, e2]
  have e3 : ∀ v : Int, stp (stp g 181 34 (g 181 32)) 181 33 v 181 32 = (nxt t p : Int) := fun v => by rw [stp_ne (by omega)]; exact e1
  by_cases q : nxt t p < t.length
  · rw [if_pos (by omega), rdm1 (by omega), stp_ne (show (182 : Nat) ≠ 181 ∨ nxt t p ≠ 34 by omega), x3 182 _ (by omega), hb _ q, e3, wr_s (by omega), x2]
    unfold bA
    rw [if_pos q]
  · rw [if_neg (by omega), e3, wr_s (by omega), x2, bA_end (by omega)]
