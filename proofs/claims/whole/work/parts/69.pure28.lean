/-! powers -/
theorem zlet_eq {x : Int} {f : Int → RO} : zlet x f = f x := id rfl
theorem zjn_eq {α : Type} {a : α} {f : α → RO} : zjn a f = f a := id rfl
theorem pig : ∀ (n : Nat) (f : Nat → Nat), (∀ i, i < n + 1 → f i < n) → ∃ i j, i < j ∧ j < n + 1 ∧ f i = f j
  | 0, f, h => absurd (h 0 (by omega)) (by omega)
  | n + 1, f, h => by
    by_cases q : ∃ i, i < n + 1 ∧ f i = f (n + 1)
    · obtain ⟨i, h1, h2⟩ := q
      exact ⟨i, n + 1, h1, by omega, h2⟩
    · have hne : ∀ i, i < n + 1 → f i ≠ f (n + 1) := fun i hi e => q ⟨i, hi, e⟩
      obtain ⟨i, j, h1, h2, h3⟩ := pig n (fun i => if f (n + 1) < f i then f i - 1 else f i) (fun i hi => by
        have a1 := h i (by omega)
        have a2 := h (n + 1) (by omega)
        have a3 := hne i hi
        show (if f (n + 1) < f i then f i - 1 else f i) < n
        by_cases z : f (n + 1) < f i
        · rw [if_pos z]; omega
        · rw [if_neg z]; omega)
      refine ⟨i, j, h1, by omega, ?_⟩
      have b1 := hne i (by omega)
      have b2 := hne j (by omega)
      replace h3 : (if f (n + 1) < f i then f i - 1 else f i) = (if f (n + 1) < f j then f j - 1 else f j) := h3
      by_cases z1 : f (n + 1) < f i
      · rw [if_pos z1] at h3
        by_cases z2 : f (n + 1) < f j
        · rw [if_pos z2] at h3; omega
        · rw [if_neg z2] at h3; omega
      · rw [if_neg z1] at h3
        by_cases z2 : f (n + 1) < f j
        · rw [if_pos z2] at h3; omega
        · rw [if_neg z2] at h3; omega
def pth (f : Nat → Nat) (a : Nat) : Nat → Nat
  | 0 => a
  | i + 1 => f (pth f a i)
def tlF (p : Nat → Nat) : Nat → Nat → Nat
  | i, 0 => i
  | i, m + 1 => if exB (fun j => decide (p j = p i)) 0 i = true then i else tlF p (i + 1) m
theorem ex_p {p : Nat → Nat} {i x : Nat} : exB (fun j => decide (p j = x)) 0 i = true ↔ ∃ j, j < i ∧ p j = x := by
  rw [exB_iff]
  constructor
  · rintro ⟨j, h1, h2, h3⟩
    exact ⟨j, by omega, by simpa using h3⟩
  · rintro ⟨j, h1, h2⟩
    exact ⟨j, Nat.zero_le _, by omega, by simpa using h2⟩
section PO
variable {F A d n o a : Nat} {ar : List Nat} {tb : Nat → Nat → Int} {V : Nat → Nat → Nat}
theorem pth_lt (ha : a < n) (hB : ∀ a b : Nat, a < n → b < n → V a b < n) : ∀ i, pth (fun x => V x a) a i < n
  | 0 => ha
  | i + 1 => hB _ _ (pth_lt ha hB i) ha
theorem cPo1 {h : HF} (h0 : h A 0 = (n : Int)) (hn : n ≤ 7) (hV : ∀ a b : Nat, a < n → b < n → fX0_value F A (o : Int) (a : Int) (b : Int) h = some (((V a b : Nat) : Int), h)) (hB : ∀ a b : Nat, a < n → b < n → V a b < n) (ha : a < n) {k : Int → Int → HF → RO} : ∀ (m i N x : Nat), i + m = n → m + 1 ≤ N → x < 2 ^ 7 → (∀ j, x.testBit j = true ↔ ∃ i', i' < i ∧ pth (fun x => V x a) a i' = j) → LX0_powerPath_11 F A (o : Int) (a : Int) k N (x : Int) ((pth (fun x => V x a) a i : Nat) : Int) (i : Int) (i : Int) h = k ((pth (fun x => V x a) a (tlF (pth (fun x => V x a) a) i m) : Nat) : Int) ((tlF (pth (fun x => V x a) a) i m : Nat) : Int) h := by
  intro m
  induction m with
  | zero =>
    intro i N x hi hN hx hb
    obtain ⟨N, rfl⟩ : ∃ M, N = M + 1 := ⟨N - 1, by omega⟩
    rw [LX0_powerPath_11]
    simp only [zgf]
    rw [h0, if_neg (by omega)]
    rfl
  | succ m ih =>
    intro i N x hi hN hx hb
    obtain ⟨N, rfl⟩ : ∃ M, N = M + 1 := ⟨N - 1, by omega⟩
    have hp := pth_lt ha hB i
    rw [LX0_powerPath_11]
    simp only [zgf, zlet]
    rw [h0, if_pos (by omega), hasBit_eq (by omega) (by omega), zbd_some]
    simp only [tlF]
    by_cases q : exB (fun j => decide (pth (fun x => V x a) a j = pth (fun x => V x a) a i)) 0 i = true
    · rw [if_pos q, (hb _).mpr (ex_p.mp q), bi_t, if_neg (by decide)]
    · have q' : x.testBit (pth (fun x => V x a) a i) = false := by
        cases z : x.testBit (pth (fun x => V x a) a i)
        · rfl
        · exact absurd (ex_p.mpr ((hb _).mp z)) q
      have h2 : 2 ^ pth (fun x => V x a) a i < 2 ^ 7 := Nat.pow_lt_pow_right (by decide) (by omega)
      rw [if_neg q, q', bi_f, if_pos rfl, wshl_1 (by omega), wor_N (by omega) (by omega), hV _ _ hp ha, zbd_some, wr_s (by omega)]
      exact ih (i + 1) N _ (by omega) (by omega) (Nat.or_lt_two_pow hx h2) (fun j => by
        rw [Nat.testBit_or, Nat.testBit_two_pow, Bool.or_eq_true, hb j]
        constructor
        · rintro (⟨i', z1, z2⟩ | z)
          · exact ⟨i', by omega, z2⟩
          · exact ⟨i, by omega, by simpa using z⟩
        · rintro ⟨i', z1, z2⟩
          by_cases z : i' = i
          · subst z; exact Or.inr (by simpa using z2)
          · exact Or.inl ⟨i', by omega, z2⟩)
theorem cPo2 {h : HF} (hn : n ≤ 7) (hV : ∀ a b : Nat, a < n → b < n → fX0_value F A (o : Int) (a : Int) (b : Int) h = some (((V a b : Nat) : Int), h)) (hB : ∀ a b : Nat, a < n → b < n → V a b < n) (ha : a < n) {T S : Nat} (hT : T ≤ 7) (hS : S < T) (e : pth (fun x => V x a) a S = pth (fun x => V x a) a T) (hne : ∀ j, j < S → pth (fun x => V x a) a j ≠ pth (fun x => V x a) a T) {k : Int → Int → HF → RO} : ∀ (m i N : Nat), i + m = S → m + 1 ≤ N → LX0_powerPath_64 F A (o : Int) (a : Int) ((pth (fun x => V x a) a T : Nat) : Int) (T : Int) k N (i : Int) ((pth (fun x => V x a) a i : Nat) : Int) (i : Int) h = k (T : Int) (S : Int) h := by
  intro m
  induction m with
  | zero =>
    intro i N hi hN
    obtain ⟨N, rfl⟩ : ∃ M, N = M + 1 := ⟨N - 1, by omega⟩
    obtain rfl : i = S := by omega
    rw [LX0_powerPath_64, if_pos (by omega), if_pos (by rw [e])]
  | succ m ih =>
    intro i N hi hN
    obtain ⟨N, rfl⟩ : ∃ M, N = M + 1 := ⟨N - 1, by omega⟩
    have hp := pth_lt ha hB i
    have := hne i (by omega)
    rw [LX0_powerPath_64, if_pos (by omega), if_neg (by omega), hV _ _ hp ha, zbd_some]
    simp only [zlet]
    rw [wr_s (by omega)]
    exact ih (i + 1) N (by omega) (by omega)
theorem mPo1 {p : Nat → Nat} (hps : ∀ i, p (i + 1) = V (p i) a) (hpn : ∀ i, p i < n) (hd : d < 10) (hw : WF n ar tb) (ho : o < ar.length) (h2 : ar.getD o 0 = 2) (hT : ∀ a b, a < n → b < n → tb o (ix n 2 a b) = ((V a b : Nat) : Int)) (ha : a < n) {k : Int → Int → HF → RO} : ∀ (m i N : Nat) (h : HF), i + m = n → m + 1 ≤ N → RepM h 184 185 186 187 d n ar tb → (∀ j, j < 7 → (¬ ∃ i', i' < i ∧ p i' = j) → h 193 j = -1) → (∀ i', i' < i → h 193 (p i') = (i' : Int)) → (∀ i' i'', i' < i'' → i'' < i → p i' ≠ p i'') → ∃ (h' : HF) (S : Nat), LX12_powers_84 F 181 (d : Int) (o : Int) (a : Int) k N ((p i : Nat) : Int) (i : Int) h = k ((p (tlF (p) i m) : Nat) : Int) ((tlF (p) i m : Nat) : Int) h' ∧ S < tlF (p) i m ∧ tlF (p) i m ≤ n ∧ p S = p (tlF (p) i m) ∧ h' 193 (p (tlF (p) i m)) = (S : Int) ∧ (∀ j, j < S → p j ≠ p (tlF (p) i m)) ∧ ∀ c k, c ≠ 193 → h' c k = h c k := by
  have hn := hw.1.2
  intro m
  induction m with
  | zero =>
    intro i N h hi hN hr hx hy hz
    obtain ⟨N, rfl⟩ : ∃ M, N = M + 1 := ⟨N - 1, by omega⟩
    have hp := hpn i
    obtain ⟨S, j, s1, s2, s3⟩ := pig n p (fun i _ => hpn i)
    have hj : j = i := by
      by_cases z : j < i
      · exact absurd s3 (hz S j s1 z)
      · omega
    subst hj
    simp only [tlF]
    refine ⟨h, S, ?_, s1, by omega, s3, by rw [← s3]; exact hy S s1, fun j' hj' e => hz j' S hj' s1 (by rw [e, s3]), fun _ _ _ => rfl⟩
    rw [LX12_powers_84, rdm12 (by omega), show h 193 (p j) = (S : Int) by rw [← s3]; exact hy S s1, if_neg (by omega)]
  | succ m ih =>
    intro i N h hi hN hr hx hy hz
    obtain ⟨N, rfl⟩ : ∃ M, N = M + 1 := ⟨N - 1, by omega⟩
    have hp := hpn i
    rw [LX12_powers_84, rdm12 (by omega)]
    simp only [tlF]
    by_cases q : exB (fun j => decide (p j = p i)) 0 i = true
    · obtain ⟨S, s1, s2⟩ := ex_p.mp q
      have e := hy S s1
      rw [s2] at e
      rw [if_pos q, show h 193 (p i) = (S : Int) from e, if_neg (by omega)]
      exact ⟨h, S, rfl, s1, by omega, s2, e, fun j' hj' z => hz j' S hj' s1 (by rw [z, s2]), fun _ _ _ => rfl⟩
    · have hnot : ¬ ∃ i', i' < i ∧ p i' = p i := fun z => q (ex_p.mpr z)
      rw [if_neg q, hx _ (by omega) hnot, if_pos rfl, wtm12 (by omega), zlet_eq]
      have hr' : RepM (stp h 193 (p i) (i : Int)) 184 185 186 187 d n ar tb := RepM_keep (fun k => ⟨stp_ne (by omega), stp_ne (by omega), stp_ne (by omega), stp_ne (by omega)⟩) hr
      rw [wr_s (by omega), mval2 hd hw hr' ho h2 hp ha, zbd_some, hT _ _ hp ha, ← hps i]
      obtain ⟨h', S, x1, x2, x3, x4, x5, x6, x7⟩ := ih (i + 1) N (stp h 193 (p i) (i : Int)) (by omega) (by omega) hr' (fun j hj z => by
          rw [stp_ne (Or.inr (fun e => z ⟨i, by omega, e.symm⟩))]
          exact hx j hj (fun ⟨i', w1, w2⟩ => z ⟨i', by omega, w2⟩)) (fun i' hi' => by
          by_cases z : i' = i
          · subst z; rw [stp_eq]
          · rw [stp_ne (Or.inr (fun e => hnot ⟨i', by omega, e⟩))]
            exact hy i' (by omega)) (fun i' i'' w1 w2 => by
          by_cases z : i'' = i
          · subst z; exact fun e => hnot ⟨i', w1, e⟩
          · exact hz i' i'' w1 (by omega))
      exact ⟨h', S, x1, x2, x3, x4, x5, x6, fun c k hc => by rw [x7 c k hc, stp_ne (Or.inl hc)]⟩
theorem mPo0 {u1 u2 u3 : Int} {k : HF → RO} : ∀ (m i N : Nat) (h : HF), i + m = 7 → m + 1 ≤ N → LX12_powers_57 F 181 u1 u2 u3 k N (i : Int) h = k (fil h 193 i m (-1)) := by
  intro m
  induction m with
  | zero =>
    intro i N h hi hN
    obtain ⟨N, rfl⟩ : ∃ M, N = M + 1 := ⟨N - 1, by omega⟩
    rw [LX12_powers_57, if_neg (by omega), fil_0]
  | succ m ih =>
    intro i N h hi hN
    obtain ⟨N, rfl⟩ : ∃ M, N = M + 1 := ⟨N - 1, by omega⟩
    rw [LX12_powers_57, if_pos (by omega), wtm12 (by omega)]
    simp only [zlet]
    rw [wr_s (by omega), ih (i + 1) N _ (by omega) (by omega), fil_succ]
end PO
set_option maxRecDepth 20000 in
theorem ps_powers {I6 : HF → Prop} {F : Nat} (hF : 200 ≤ F) : PS_powers F (InvP I4d I5d I6) := by
  intro h a1 a2 a3 hI _ _ _
  have hI' := Inv_thrown hI
  have hD : ∀ d, d < 8 → DR h d := fun d hd => I4d_get hI.2.2.2.1 hd
  unfold fX11_powers fX12_powers
  simp only [zjn, zpf]
  by_cases q : rfs h a1 = 0
  · obtain ⟨d, n, ar, tb, rfl, hd, hw, hc, hm⟩ := held hD q
    have hm' := RepM_thrown hm
    have hl := hw.2.1
    have hn := hw.1.2
    obtain ⟨-, k1, -, -, -, -⟩ := zl_0 (117 + 4 * d) (kt_drw d hd)
    by_cases q2 : 0 ≤ a2 ∧ a2 < (ar.length : Int)
    · obtain ⟨o, rfl⟩ : ∃ o : Nat, a2 = (o : Int) := ⟨a2.toNat, by omega⟩
      have ho : o < ar.length := by omega
      by_cases q3 : 0 ≤ a3 ∧ a3 < (n : Int)
      · obtain ⟨a, rfl⟩ : ∃ o : Nat, a3 = (o : Int) := ⟨a3.toNat, by omega⟩
        have ha : a < n := by omega
        by_cases h2 : ar.getD o 0 = 2
        · have hcell : ∀ a b, a < n → b < n → 0 ≤ tb o (ix n 2 a b) ∧ tb o (ix n 2 a b) < (n : Int) := fun a b ha hb => hw.2.2.2 o ho _ (by rw [h2]; exact ix2_lt ha hb)
          have hT : ∀ a b, a < n → b < n → tb o (ix n 2 a b) = (((fun a b => (tb o (ix n 2 a b)).toNat) a b : Nat) : Int) := fun a b ha hb => by have := hcell a b ha hb; show _ = ((tb o (ix n 2 a b)).toNat : Int); omega
          have hB : ∀ a b : Nat, a < n → b < n → (fun a b => (tb o (ix n 2 a b)).toNat) a b < n := fun a b ha hb => by have := hcell a b ha hb; show (tb o (ix n 2 a b)).toNat < n; omega
          generalize (fun a b => (tb o (ix n 2 a b)).toNat) = V at hT hB
          have hV : ∀ a b : Nat, a < n → b < n → fX0_value F (117 + 4 * d) (o : Int) (a : Int) (b : Int) h = some (((V a b : Nat) : Int), h) := fun a b ha hb => by rw [val2 (kt_drw d hd) hw hc ho h2 ha hb, hT a b ha hb]
          have hr7 : RepM (fil (stp h 181 0 0) 193 0 7 (-1)) 184 185 186 187 d n ar tb := RepM_keep (fun k => ⟨fil_off (by omega), fil_off (by omega), fil_off (by omega), fil_off (by omega)⟩) hm'
          obtain ⟨h4, S, x1, x2, x3, x4, x5, x6, x7⟩ := mPo1 (F := F) (p := pth (fun x => V x a) a) (fun i => rfl) (pth_lt ha hB) (show d < 10 by omega) hw ho h2 hT ha (k := fun (x121_5 : Int) (x121_6 : Int) (h : HF) => zrd h (181 + 12) x121_5 fun x5 => zrd h (181 + 12) x121_5 fun x6 => some (wr ((wr ((wr (10 * x5)) + x121_6)) - x6), h)) n 0 F (fil (stp h 181 0 0) 193 0 7 (-1)) (by omega) (by omega) hr7 (fun j hj _ => fil_in (by omega)) (fun i' hi' => absurd hi' (by omega)) (fun i' i'' _ hi' => absurd hi' (by omega))
          have c1 := cPo1 (F := F) (A := 117 + 4 * d) hc.1 hn hV hB ha (k := fun (x55_4 : Int) (x55_5 : Int) (h : HF) => LX0_powerPath_64 F (117 + 4 * d) (o : Int) (a : Int) x55_4 x55_5 (fun (x97_5 : Int) (x97_6 : Int) (h : HF) => some (wr ((wr ((wr (10 * x97_6)) + x97_5)) - x97_6), h)) F 0 (a : Int) 0 h) n 0 F 0 (by omega) (by omega) (by decide) (fun j => by
            rw [Nat.zero_testBit]
            constructor
            · intro z; exact absurd z (by decide)
            · rintro ⟨i', z, _⟩; exact absurd z (by omega))
          have c2 := cPo2 (F := F) (A := 117 + 4 * d) hn hV hB ha (show tlF (pth (fun x => V x a) a) 0 n ≤ 7 by omega) x2 x4 x6 (k := fun (x97_5 : Int) (x97_6 : Int) (h : HF) => some (wr ((wr ((wr (10 * x97_6)) + x97_5)) - x97_6), h)) S 0 F (by omega) (by omega)
          have hpT := pth_lt ha hB (tlF (pth (fun x => V x a) a) 0 n)
          generalize tlF (pth (fun x => V x a) a) 0 n = T at x1 x2 x3 x4 x5 x6 c1 c2 hpT
          refine ⟨wr (wr (wr (10 * (S : Int)) + (T : Int)) - (S : Int)), h, h4, ?_, ?_, Inv_while hI ?_⟩
          · rw [refuseOp_c hD hd q hc, zbd_some, if_pos q2, if_pos (show (0 : Int) = 0 from rfl), drw_at hd, hasElement_eq hc.1, zbd_some, bl_pos q3, if_neg (show ¬ (1 : Int) = 0 by decide), zrd_ok (a := 117 + 4 * d + 1) ⟨by omega, by rw [k1]; omega⟩, Int.toNat_natCast, hc.2.2.2.1 o ho, if_pos (by omega)]
            unfold fX0_powerPath
            simp only [zjn]
            have c3 := c1.trans c2
            have c4 : LX0_powerPath_11 F (117 + 4 * d) (o : Int) (a : Int) (fun (x55_4 : Int) (x55_5 : Int) (h : HF) => LX0_powerPath_64 F (117 + 4 * d) (o : Int) (a : Int) x55_4 x55_5 (fun (x97_5 : Int) (x97_6 : Int) (h : HF) => some (wr ((wr ((wr (10 * x97_6)) + x97_5)) - x97_6), h)) F 0 (a : Int) 0 h) F 0 (a : Int) 0 0 h = some (wr (wr (wr (10 * (S : Int)) + (T : Int)) - (S : Int)), h) := c3
            rw [c4, zbd_some]
          · rw [refuse_m, zbd_some, rfs_thrown, if_pos q, isOp_m (by omega) hm', zbd_some, bl_pos q2, if_neg (show ¬ (1 : Int) = 0 by decide), misElement_eq (by omega) hm'.1, zbd_some, bl_pos q3, if_neg (show ¬ (1 : Int) = 0 by decide), marity_eq (by omega) hw hm' ho, zbd_some, if_pos (by omega)]
            refine (mPo0 (F := F) 7 0 F (stp h 181 0 0) (by omega) (by omega)).trans ?_
            refine x1.trans ?_
            rw [rdm12 (by omega), rdm12 (by omega), x5]
          · intro c k x
            rw [x7 _ _ (by omega), fil_off (by omega), stp_ne (by omega)]
        · refine ⟨-12, h, stp h 181 0 0, ?_, ?_, hI'⟩
          · rw [refuseOp_c hD hd q hc, zbd_some, if_pos q2, if_pos (show (0 : Int) = 0 from rfl), drw_at hd, hasElement_eq hc.1, zbd_some, bl_pos q3, if_neg (show ¬ (1 : Int) = 0 by decide), zrd_ok (a := 117 + 4 * d + 1) ⟨by omega, by rw [k1]; omega⟩, Int.toNat_natCast, hc.2.2.2.1 o ho, if_neg (by omega)]
          · rw [refuse_m, zbd_some, rfs_thrown, if_pos q, isOp_m (by omega) hm', zbd_some, bl_pos q2, if_neg (show ¬ (1 : Int) = 0 by decide), misElement_eq (by omega) hm'.1, zbd_some, bl_pos q3, if_neg (show ¬ (1 : Int) = 0 by decide), marity_eq (by omega) hw hm' ho, zbd_some, if_neg (by omega)]
      · refine ⟨-3, h, stp h 181 0 0, ?_, ?_, hI'⟩
        · rw [refuseOp_c hD hd q hc, zbd_some, if_pos q2, if_pos (show (0 : Int) = 0 from rfl), drw_at hd, hasElement_eq hc.1, zbd_some, bl_neg q3, if_pos (show (0 : Int) = 0 from rfl)]
        · rw [refuse_m, zbd_some, rfs_thrown, if_pos q, isOp_m (by omega) hm', zbd_some, bl_pos q2, if_neg (show ¬ (1 : Int) = 0 by decide), misElement_eq (by omega) hm'.1, zbd_some, bl_neg q3, if_pos (show (0 : Int) = 0 from rfl)]
    · refine ⟨-3, h, stp h 181 0 0, ?_, ?_, hI'⟩
      · rw [refuseOp_c hD hd q hc, zbd_some, if_neg q2, if_neg (show ¬ (-3 : Int) = 0 by decide)]
      · rw [refuse_m, zbd_some, rfs_thrown, if_pos q, isOp_m (by omega) hm', zbd_some, bl_neg q2, if_pos (show (0 : Int) = 0 from rfl)]
  · refine ⟨rfs h a1, h, stp h 181 0 0, ?_, ?_, hI'⟩
    · unfold fX11_refuseOperation
      rw [refuse_c hD, zbd_some, if_neg q, zbd_some, if_neg q]
    · rw [refuse_m, zbd_some, rfs_thrown, if_neg q]
