/-! the class compares a numbering with the best -/
theorem k10b : kl 106 = 7 ∧ kl 107 = 7 ∧ kl 108 = 7 ∧ kl 109 = 7 := by decide +kernel
theorem rdp {h : HF} {c i : Nat} {f : Int → RO} (hc : c = 1 ∨ c = 2 ∨ c = 3 ∨ c = 4) (hi : i < 7) : zrd h (105 + c) (i : Int) f = f (h (105 + c) i) := by
  obtain ⟨a1, a2, a3, a4⟩ := k10b
  have : kl (105 + c) = 7 := by rcases hc with rfl | rfl | rfl | rfl <;> assumption
  rw [zrd_ok (a := 105 + c) ⟨by omega, by rw [this]; omega⟩, Int.toNat_natCast]
theorem wtp {h : HF} {c i : Nat} {v : Int} {f : HF → RO} (hc : c = 1 ∨ c = 2 ∨ c = 3 ∨ c = 4) (hi : i < 7) : zwr h (105 + c) (i : Int) v f = f (stp h (105 + c) i v) := by
  obtain ⟨a1, a2, a3, a4⟩ := k10b
  have : kl (105 + c) = 7 := by rcases hc with rfl | rfl | rfl | rfl <;> assumption
  rw [zwr_ok (a := 105 + c) ⟨by omega, by rw [this]; omega⟩, Int.toNat_natCast]
/-- a row and where its elements stand -/
def RWp (h : HF) (x y n : Nat) (p : List Nat) : Prop := LN h x p ∧ ∀ v, v < n → h y v = ((iv p v : Nat) : Int)
theorem RWp_keep {h h' : HF} {x y n : Nat} {p : List Nat} (ex : ∀ i, h' x i = h x i) (ey : ∀ i, h' y i = h y i) (hp : RWp h x y n p) : RWp h' x y n p := ⟨LN_keep ex hp.1, fun v hv => by rw [ey]; exact hp.2 v hv⟩
def CSt (h : HF) (A n : Nat) (ar : List Nat) (tb : Nat → Nat → Int) (p q : List Nat) : Prop := RepC h A n ar tb ∧ RWp h 108 109 n p ∧ RWp h 106 107 n q
theorem CSt_keep {h h' : HF} {A n : Nat} {ar : List Nat} {tb : Nat → Nat → Int} {p q : List Nat} (hA : A + 3 < 105 ∨ 109 < A) (e : ∀ c i, c ≠ 105 → h' c i = h c i) (hC : CSt h A n ar tb p q) : CSt h' A n ar tb p q := ⟨RepC_keep (fun i k hi => e _ _ (by omega)) hC.1, RWp_keep (fun i => e _ _ (by omega)) (fun i => e _ _ (by omega)) hC.2.1, RWp_keep (fun i => e _ _ (by omega)) (fun i => e _ _ (by omega)) hC.2.2⟩
/-- two tables that agree up to a place -/
def AG (n : Nat) (ar : List Nat) (tb tb' : Nat → Nat → Int) (R : Int) : Prop := ∀ o k, o < ar.length → k < pw n (ar.getD o 0) → ((sto n ar o + k : Nat) : Int) ≤ R → tb' o k = tb o k
theorem AG_le {n : Nat} {ar : List Nat} {tb tb' : Nat → Nat → Int} {R R' : Int} (h : R ≤ R') (hA : AG n ar tb tb' R') : AG n ar tb tb' R := fun o k ho hk hR => hA o k ho hk (by omega)
theorem AG_vl {n : Nat} {ar : List Nat} {tb tb' : Nat → Nat → Int} {R : Int} {o a b : Nat} (hw : WF n ar tb) (hA : AG n ar tb tb' R) (ho : o < ar.length) (ha : a < n) (hb : b < n) (hR : ((sto n ar o + ix n (ar.getD o 0) a b : Nat) : Int) ≤ R) : vl tb' n ar o a b = vl tb n ar o a b := by
  unfold vl
  rw [hA o _ ho (ix_lt hw.1.1 (fun _ => ha) (fun _ => hb)) hR]
theorem sto_tot {n o i : Nat} {ar : List Nat} (ho : o < ar.length) (hi : i < pw n (ar.getD o 0)) : sto n ar o + i < sto n ar ar.length := by
  have : ∀ m, o + 1 + m ≤ ar.length → sto n ar o + pw n (ar.getD o 0) ≤ sto n ar (o + 1 + m) := by
    intro m
    induction m with
    | zero => intro _; exact Nat.le_refl _
    | succ m ih => intro h; have := ih (by omega); rw [show o + 1 + (m + 1) = (o + 1 + m) + 1 by omega, sto]; omega
  have := this (ar.length - o - 1) (by omega)
  rw [show o + 1 + (ar.length - o - 1) = ar.length by omega] at this
  omega
section CC
variable {F n A : Nat} {ar : List Nat} {tb : Nat → Nat → Int} {p q : List Nat}
theorem cc3 (hA : A + 3 < 105 ∨ 109 < A) (hk : kt A = 0 + 3) (hw : WF n ar tb) (hp : IsP n p) (hq : IsP n q) {o a : Nat} (ho : o < ar.length) (ha : a < n) {k138 : Int → HF → RO} {k129 : Int → HF → RO} : ∀ (m b N : Nat) (h : HF) (R : Int), b + m = clN n (ar.getD o 0) → m + 1 ≤ N → CSt h A n ar tb p q → h 105 3 = R → -1 ≤ R → R < (sto n ar ar.length : Int) → ∃ (R' : Int) (h' : HF), R ≤ R' ∧ R' < (sto n ar ar.length : Int) ∧ h' 105 3 = R' ∧ (∀ c i, (c ≠ 105 ∨ i ≠ 3) → h' c i = h c i) ∧ (∀ tb', AG n ar tb tb' R' → cmpL (flF (lB tb' n ar p o a) m b) (flF (lB tb' n ar q o a) m b) = cmpL (flF (lB tb n ar p o a) m b) (flF (lB tb n ar q o a) m b)) ∧ LX6_compareWithBest_29 F 105 A (o : Int) (a : Int) k138 k129 N (b : Int) h = if cmpL (flF (lB tb n ar p o a) m b) (flF (lB tb n ar q o a) m b) = 0 then k138 (a : Int) h' else k129 (cmpL (flF (lB tb n ar p o a) m b) (flF (lB tb n ar q o a) m b)) h' := by
  have hn := hw.1
  have hl := hw.2.1
  intro m
  induction m with
  | zero =>
    intro b N h R hb hN hC h3 h4 h5
    obtain ⟨N, rfl⟩ : ∃ M, N = M + 1 := ⟨N - 1, by omega⟩
    obtain ⟨hr, hP, hQ⟩ := hC
    refine ⟨R, h, Int.le_refl _, h5, h3, fun _ _ _ => rfl, fun _ _ => rfl, ?_⟩
    rw [LX6_compareWithBest_29, cols_eq hk (by omega) hr.1 (hr.2.2.2.1 o ho), zbd_some, if_neg (by omega), flF, flF, cmpL, if_pos rfl]
    · intros; contradiction
  | succ m ih =>
    intro b N h R hb hN hC h3 h4 h5
    obtain ⟨N, rfl⟩ : ∃ M, N = M + 1 := ⟨N - 1, by omega⟩
    have hb' : b < n := by have := (rwN_le hn.1 (r := ar.getD o 0)).2; omega
    obtain ⟨hr, hP, hQ⟩ := id hC
    have pa := hp.1.2 a ha
    have pb := hp.1.2 b hb'
    have qa := hq.1.2 a ha
    have qb := hq.1.2 b hb'
    have pl := hp.1.1
    have ql := hq.1.1
    have vP := vl_eq hw ho pa pb
    have vQ := vl_eq hw ho qa qb
    have iP : ix n (ar.getD o 0) (p.getD a 0) (p.getD b 0) < pw n (ar.getD o 0) := ix_lt hn.1 (fun _ => pa) (fun _ => pb)
    have iQ : ix n (ar.getD o 0) (q.getD a 0) (q.getD b 0) < pw n (ar.getD o 0) := ix_lt hn.1 (fun _ => qa) (fun _ => qb)
    have tP := sto_tot ho iP
    have tQ := sto_tot ho iQ
    have st := sto_le hn.2 hw.2.2.1 ar.length (Nat.le_refl _)
    have s1 : fX0_spot F A (o : Int) ((p.getD a 0 : Nat) : Int) ((p.getD b 0 : Nat) : Int) h = some (((sto n ar o + ix n (ar.getD o 0) (p.getD a 0) (p.getD b 0) : Nat) : Int), h) := by
      have := spot_eq (F := F) (a := ((p.getD a 0 : Nat) : Int)) (b := ((p.getD b 0 : Nat) : Int)) hk hw hr ho (fun _ => by omega) (fun _ => by omega)
      rwa [Int.toNat_natCast, Int.toNat_natCast] at this
    have s2 : fX0_spot F A (o : Int) ((q.getD a 0 : Nat) : Int) ((q.getD b 0 : Nat) : Int) h = some (((sto n ar o + ix n (ar.getD o 0) (q.getD a 0) (q.getD b 0) : Nat) : Int), h) := by
      have := spot_eq (F := F) (a := ((q.getD a 0 : Nat) : Int)) (b := ((q.getD b 0 : Nat) : Int)) hk hw hr ho (fun _ => by omega) (fun _ => by omega)
      rwa [Int.toNat_natCast, Int.toNat_natCast] at this
    have k3 : kl (A + 3) = 196 := by obtain ⟨-, -, -, -, -, k3⟩ := zl_0 A hk; exact k3
    obtain ⟨R1, hR1⟩ : ∃ R1, R1 = zmax R (zmax ((sto n ar o + ix n (ar.getD o 0) (p.getD a 0) (p.getD b 0) : Nat) : Int) ((sto n ar o + ix n (ar.getD o 0) (q.getD a 0) (q.getD b 0) : Nat) : Int)) := ⟨_, rfl⟩
    have mR : R ≤ R1 ∧ ((sto n ar o + ix n (ar.getD o 0) (p.getD a 0) (p.getD b 0) : Nat) : Int) ≤ R1 ∧ ((sto n ar o + ix n (ar.getD o 0) (q.getD a 0) (q.getD b 0) : Nat) : Int) ≤ R1 ∧ R1 < (sto n ar ar.length : Int) := by
      rw [hR1]; unfold zmax
      repeat' split
      all_goals (refine ⟨?_, ?_, ?_, ?_⟩ <;> omega)
    have e1 : ∀ c i, (c ≠ 105 ∨ i ≠ 3) → stp h 105 3 R1 c i = h c i := fun c i hc => stp_ne (by omega)
    have eqn : LX6_compareWithBest_29 F 105 A (o : Int) (a : Int) k138 k129 (N + 1) (b : Int) h = if lnv tb n ar p o a b = lnv tb n ar q o a b then LX6_compareWithBest_29 F 105 A (o : Int) (a : Int) k138 k129 N ((b + 1 : Nat) : Int) (stp h 105 3 R1) else k129 ((lnv tb n ar p o a b : Int) - (lnv tb n ar q o a b : Int)) (stp h 105 3 R1) := by
      have lp := lnv_lt hw hp ho ha hb'
      have lq := lnv_lt hw hq ho ha hb'
      rw [LX6_compareWithBest_29, cols_eq hk (by omega) hr.1 (hr.2.2.2.1 o ho), zbd_some, if_pos (by omega), rdp (by omega) (by omega), rdp (by omega) (by omega)]
      rw [show h (105 + 3) a = _ from hP.1 a (by omega), show h (105 + 3) b = _ from hP.1 b (by omega), s1, zbd_some, rdp (by omega) (by omega), rdp (by omega) (by omega)]
      rw [show h (105 + 1) a = _ from hQ.1 a (by omega), show h (105 + 1) b = _ from hQ.1 b (by omega), s2, zbd_some, zgf_eq, h3, zpf_eq, ← hR1]
      rw [zrd_ok (a := A + 3) ⟨by omega, by rw [k3]; omega⟩, Int.toNat_natCast, e1 (A + 3) _ (by omega), hr.2.2.2.2.2 o ho _ iP, vP.1, rdp (by omega) (by omega)]
      rw [zrd_ok (a := A + 3) ⟨by omega, by rw [k3]; omega⟩, Int.toNat_natCast, e1 (A + 3) _ (by omega), hr.2.2.2.2.2 o ho _ iQ, vQ.1, rdp (by omega) (by omega)]
      rw [e1 (105 + 4) _ (by omega), e1 (105 + 2) _ (by omega), show h (105 + 4) _ = _ from hP.2 _ vP.2, show h (105 + 2) _ = _ from hQ.2 _ vQ.2, zlet_eq]
      show (if wr ((lnv tb n ar p o a b : Int) - (lnv tb n ar q o a b : Int)) = 0 then _ else _) = _
      rw [wr_id (x := (lnv tb n ar p o a b : Int) - (lnv tb n ar q o a b : Int)) ⟨by omega, by omega⟩]
      by_cases z : lnv tb n ar p o a b = lnv tb n ar q o a b
      · rw [if_pos (by omega), if_pos z, zlet_eq, wr_id ⟨by omega, by omega⟩]; rfl
      · rw [if_neg (by omega), if_neg z]
        exact congrArg (fun x => k129 x (stp h 105 3 R1)) (wr_id (x := (lnv tb n ar p o a b : Int) - (lnv tb n ar q o a b : Int)) ⟨by omega, by omega⟩)
    have ag1 : ∀ tb', AG n ar tb tb' R1 → lnv tb' n ar p o a b = lnv tb n ar p o a b ∧ lnv tb' n ar q o a b = lnv tb n ar q o a b := fun tb' hG => by
      unfold lnv
      rw [AG_vl hw hG ho pa pb mR.2.1, AG_vl hw hG ho qa qb mR.2.2.1]
      exact ⟨rfl, rfl⟩
    have cm : ∀ tb', cmpL (flF (lB tb' n ar p o a) (m + 1) b) (flF (lB tb' n ar q o a) (m + 1) b) = if lnv tb' n ar p o a b = lnv tb' n ar q o a b then cmpL (flF (lB tb' n ar p o a) m (b + 1)) (flF (lB tb' n ar q o a) m (b + 1)) else (lnv tb' n ar p o a b : Int) - (lnv tb' n ar q o a b : Int) := fun tb' => by
      rw [flF_s, flF_s]; unfold lB; rw [List.singleton_append, List.singleton_append, cmpL]
    by_cases z : lnv tb n ar p o a b = lnv tb n ar q o a b
    · rw [if_pos z] at eqn
      obtain ⟨R', h', i1, i2, i3, i4, i5, i6⟩ := ih (b + 1) N (stp h 105 3 R1) R1 (by omega) (by omega) (CSt_keep hA (fun c i hc => e1 c i (by omega)) hC) (stp_eq ..) (by omega) mR.2.2.2
      refine ⟨R', h', by omega, i2, i3, fun c i hc => (i4 c i hc).trans (e1 c i hc), fun tb' hG => ?_, ?_⟩
      · obtain ⟨g1, g2⟩ := ag1 tb' (AG_le (by omega) hG)
        rw [cm, cm, g1, g2, if_pos z, if_pos z, i5 tb' hG]
      · rw [eqn, i6, cm, if_pos z]
    · rw [if_neg z] at eqn
      refine ⟨R1, stp h 105 3 R1, mR.1, mR.2.2.2, stp_eq .., e1, fun tb' hG => ?_, ?_⟩
      · obtain ⟨g1, g2⟩ := ag1 tb' hG
        rw [cm, cm, g1, g2, if_neg z, if_neg z]
      · rw [eqn, cm, if_neg z, if_neg (by omega)]
theorem cc2 (hF : 8 ≤ F) (hA : A + 3 < 105 ∨ 109 < A) (hk : kt A = 0 + 3) (hw : WF n ar tb) (hp : IsP n p) (hq : IsP n q) {o : Nat} (ho : o < ar.length) {k144 : Int → HF → RO} {k129 : Int → HF → RO} : ∀ (m a N : Nat) (h : HF) (R : Int), a + m = rwN n (ar.getD o 0) → m + 1 ≤ N → CSt h A n ar tb p q → h 105 3 = R → -1 ≤ R → R < (sto n ar ar.length : Int) → ∃ (R' : Int) (h' : HF), R ≤ R' ∧ R' < (sto n ar ar.length : Int) ∧ h' 105 3 = R' ∧ (∀ c i, (c ≠ 105 ∨ i ≠ 3) → h' c i = h c i) ∧ (∀ tb', AG n ar tb tb' R' → cmpL (flF (lA tb' n ar p o) m a) (flF (lA tb' n ar q o) m a) = cmpL (flF (lA tb n ar p o) m a) (flF (lA tb n ar q o) m a)) ∧ LX6_compareWithBest_17 F 105 A (o : Int) k144 k129 N (a : Int) h = if cmpL (flF (lA tb n ar p o) m a) (flF (lA tb n ar q o) m a) = 0 then k144 (o : Int) h' else k129 (cmpL (flF (lA tb n ar p o) m a) (flF (lA tb n ar q o) m a)) h' := by
  have hn := hw.1
  have hl := hw.2.1
  intro m
  induction m with
  | zero =>
    intro a N h R hb hN hC h3 h4 h5
    obtain ⟨N, rfl⟩ : ∃ M, N = M + 1 := ⟨N - 1, by omega⟩
    obtain ⟨hr, hP, hQ⟩ := hC
    refine ⟨R, h, Int.le_refl _, h5, h3, fun _ _ _ => rfl, fun _ _ => rfl, ?_⟩
    rw [LX6_compareWithBest_17, rows_eq hk (by omega) hr.1 (hr.2.2.2.1 o ho), zbd_some, if_neg (by omega), flF, flF, cmpL, if_pos rfl]
    · intros; contradiction
  | succ m ih =>
    intro a N h R hb hN hC h3 h4 h5
    obtain ⟨N, rfl⟩ : ∃ M, N = M + 1 := ⟨N - 1, by omega⟩
    have hx := rwN_le hn.1 (r := ar.getD o 0)
    have cm : ∀ tb', cmpL (flF (lA tb' n ar p o) (m + 1) a) (flF (lA tb' n ar q o) (m + 1) a) = if cmpL (lA tb' n ar p o a) (lA tb' n ar q o a) = 0 then cmpL (flF (lA tb' n ar p o) m (a + 1)) (flF (lA tb' n ar q o) m (a + 1)) else cmpL (lA tb' n ar p o a) (lA tb' n ar q o a) := fun tb' => by
      rw [flF_s, flF_s, cmpL_app2 (by rw [lA_len, lA_len])]
    obtain ⟨R1, h1, j1, j2, j3, j4, j5, j6⟩ := cc3 (F := F) hA hk hw hp hq ho (a := a) (by omega) (k138 := fun (x138_3 : Int) (h : HF) => zlet (wr (x138_3 + 1)) fun x4 => LX6_compareWithBest_17 F 105 A (o : Int) k144 k129 N x4 h) (k129 := k129) (clN n (ar.getD o 0)) 0 F h R (by omega) (by omega) hC h3 h4 h5
    have eqn : LX6_compareWithBest_17 F 105 A (o : Int) k144 k129 (N + 1) (a : Int) h = if cmpL (lA tb n ar p o a) (lA tb n ar q o a) = 0 then LX6_compareWithBest_17 F 105 A (o : Int) k144 k129 N ((a + 1 : Nat) : Int) h1 else k129 (cmpL (lA tb n ar p o a) (lA tb n ar q o a)) h1 := by
      obtain ⟨hr, hP, hQ⟩ := hC
      rw [LX6_compareWithBest_17, rows_eq hk (by omega) hr.1 (hr.2.2.2.1 o ho), zbd_some, if_pos (by omega), zjn_eq]
      refine j6.trans ?_
      rw [zlet_eq, wr_id ⟨by omega, by omega⟩]; rfl
    by_cases z : cmpL (lA tb n ar p o a) (lA tb n ar q o a) = 0
    · rw [if_pos z] at eqn
      obtain ⟨R', h', i1, i2, i3, i4, i5, i6⟩ := ih (a + 1) N h1 R1 (by omega) (by omega) (CSt_keep hA (fun c i hc => j4 c i (.inl hc)) hC) j3 (by omega) j2
      refine ⟨R', h', by omega, i2, i3, fun c i hc => (i4 c i hc).trans (j4 c i hc), fun tb' hG => ?_, ?_⟩
      · have g : cmpL (lA tb' n ar p o a) (lA tb' n ar q o a) = cmpL (lA tb n ar p o a) (lA tb n ar q o a) := j5 tb' (AG_le (by omega) hG)
        rw [cm, cm, g, if_pos z, if_pos z, i5 tb' hG]
      · rw [eqn, i6, cm, if_pos z]
    · rw [if_neg z] at eqn
      refine ⟨R1, h1, j1, j2, j3, j4, fun tb' hG => ?_, ?_⟩
      · have g : cmpL (lA tb' n ar p o a) (lA tb' n ar q o a) = cmpL (lA tb n ar p o a) (lA tb n ar q o a) := j5 tb' hG
        rw [cm, cm, g, if_neg z, if_neg z]
      · rw [eqn, cm, if_neg z, if_neg z]
theorem cc1 (hF : 8 ≤ F) (hA : A + 3 < 105 ∨ 109 < A) (hk : kt A = 0 + 3) (hw : WF n ar tb) (hp : IsP n p) (hq : IsP n q) {k150 : HF → RO} {k129 : Int → HF → RO} : ∀ (m o N : Nat) (h : HF) (R : Int), o + m = ar.length → m + 1 ≤ N → CSt h A n ar tb p q → h 105 3 = R → -1 ≤ R → R < (sto n ar ar.length : Int) → ∃ (R' : Int) (h' : HF), R ≤ R' ∧ R' < (sto n ar ar.length : Int) ∧ h' 105 3 = R' ∧ (∀ c i, (c ≠ 105 ∨ i ≠ 3) → h' c i = h c i) ∧ (∀ tb', AG n ar tb tb' R' → cmpL (flF (lO tb' n ar p) m o) (flF (lO tb' n ar q) m o) = cmpL (flF (lO tb n ar p) m o) (flF (lO tb n ar q) m o)) ∧ LX6_compareWithBest_7 F 105 A k150 k129 N (o : Int) h = if cmpL (flF (lO tb n ar p) m o) (flF (lO tb n ar q) m o) = 0 then k150 h' else k129 (cmpL (flF (lO tb n ar p) m o) (flF (lO tb n ar q) m o)) h' := by
  have hn := hw.1
  have hl := hw.2.1
  intro m
  induction m with
  | zero =>
    intro o N h R hb hN hC h3 h4 h5
    obtain ⟨N, rfl⟩ : ∃ M, N = M + 1 := ⟨N - 1, by omega⟩
    obtain ⟨hr, hP, hQ⟩ := hC
    refine ⟨R, h, Int.le_refl _, h5, h3, fun _ _ _ => rfl, fun _ _ => rfl, ?_⟩
    rw [LX6_compareWithBest_7, zgf_eq, hr.2.1, if_neg (by omega), flF, flF, cmpL, if_pos rfl]
    · intros; contradiction
  | succ m ih =>
    intro o N h R hb hN hC h3 h4 h5
    obtain ⟨N, rfl⟩ : ∃ M, N = M + 1 := ⟨N - 1, by omega⟩
    have hx := rwN_le hn.1 (r := ar.getD o 0)
    have hr2 := hw.2.2.1 o (by omega)
    have cm : ∀ tb', cmpL (flF (lO tb' n ar p) (m + 1) o) (flF (lO tb' n ar q) (m + 1) o) = if cmpL (lO tb' n ar p o) (lO tb' n ar q o) = 0 then cmpL (flF (lO tb' n ar p) m (o + 1)) (flF (lO tb' n ar q) m (o + 1)) else cmpL (lO tb' n ar p o) (lO tb' n ar q o) := fun tb' => by
      rw [flF_s, flF_s, cmpL_app2 (by rw [lO_len hr2, lO_len hr2])]
    obtain ⟨R1, h1, j1, j2, j3, j4, j5, j6⟩ := cc2 (F := F) hF hA hk hw hp hq (o := o) (by omega) (k144 := fun (x144_2 : Int) (h : HF) => zlet (wr (x144_2 + 1)) fun x2 => LX6_compareWithBest_7 F 105 A k150 k129 N x2 h) (k129 := k129) (rwN n (ar.getD o 0)) 0 F h R (by omega) (by omega) hC h3 h4 h5
    have eqn : LX6_compareWithBest_7 F 105 A k150 k129 (N + 1) (o : Int) h = if cmpL (lO tb n ar p o) (lO tb n ar q o) = 0 then LX6_compareWithBest_7 F 105 A k150 k129 N ((o + 1 : Nat) : Int) h1 else k129 (cmpL (lO tb n ar p o) (lO tb n ar q o)) h1 := by
      obtain ⟨hr, hP, hQ⟩ := hC
      rw [LX6_compareWithBest_7, zgf_eq, hr.2.1, if_pos (by omega), zjn_eq]
      refine j6.trans ?_
      rw [zlet_eq, wr_id ⟨by omega, by omega⟩]; rfl
    by_cases z : cmpL (lO tb n ar p o) (lO tb n ar q o) = 0
    · rw [if_pos z] at eqn
      obtain ⟨R', h', i1, i2, i3, i4, i5, i6⟩ := ih (o + 1) N h1 R1 (by omega) (by omega) (CSt_keep hA (fun c i hc => j4 c i (.inl hc)) hC) j3 (by omega) j2
      refine ⟨R', h', by omega, i2, i3, fun c i hc => (i4 c i hc).trans (j4 c i hc), fun tb' hG => ?_, ?_⟩
      · have g : cmpL (lO tb' n ar p o) (lO tb' n ar q o) = cmpL (lO tb n ar p o) (lO tb n ar q o) := j5 tb' (AG_le (by omega) hG)
        rw [cm, cm, g, if_pos z, if_pos z, i5 tb' hG]
      · rw [eqn, i6, cm, if_pos z]
    · rw [if_neg z] at eqn
      refine ⟨R1, h1, j1, j2, j3, j4, fun tb' hG => ?_, ?_⟩
      · have g : cmpL (lO tb' n ar p o) (lO tb' n ar q o) = cmpL (lO tb n ar p o) (lO tb n ar q o) := j5 tb' hG
        rw [cm, cm, g, if_neg z, if_neg z]
      · rw [eqn, cm, if_neg z, if_neg z]
theorem compare_c {h : HF} (hF : 8 ≤ F) (hA : A + 3 < 105 ∨ 109 < A) (hk : kt A = 0 + 3) (hw : WF n ar tb) (hp : IsP n p) (hq : IsP n q) (hC : CSt h A n ar tb p q) : ∃ (R' : Int) (h' : HF), -1 ≤ R' ∧ R' < (sto n ar ar.length : Int) ∧ h' 105 3 = R' ∧ (∀ c i, (c ≠ 105 ∨ i ≠ 3) → h' c i = h c i) ∧ (∀ tb', AG n ar tb tb' R' → cmpL (lnL tb' n ar p) (lnL tb' n ar q) = cmpL (lnL tb n ar p) (lnL tb n ar q)) ∧ fX6_compareWithBest F 105 A h = some (cmpL (lnL tb n ar p) (lnL tb n ar q), h') := by
  have hl := hw.2.1
  have e1 : ∀ c i, (c ≠ 105 ∨ i ≠ 3) → stp h 105 3 (-1) c i = h c i := fun c i hc => stp_ne (by omega)
  obtain ⟨R1, h1, j1, j2, j3, j4, j5, j6⟩ := cc1 (F := F) hF hA hk hw hp hq (k150 := fun h => some (0, h)) (k129 := fun x h => some (x, h)) ar.length 0 F (stp h 105 3 (-1)) (-1) (by omega) (by omega) (CSt_keep hA (fun c i hc => e1 c i (.inl hc)) hC) (stp_eq ..) (by omega) (by omega)
  refine ⟨R1, h1, j1, j2, j3, fun c i hc => (j4 c i hc).trans (e1 c i hc), j5, ?_⟩
  unfold fX6_compareWithBest
  rw [zpf_eq, zjn_eq, zjn_eq]
  refine j6.trans ?_
  show (if cmpL (lnL tb n ar p) (lnL tb n ar q) = 0 then _ else some (cmpL (lnL tb n ar p) (lnL tb n ar q), h1)) = _
  by_cases z : cmpL (lnL tb n ar p) (lnL tb n ar q) = 0
  · rw [if_pos z, z]
  · rw [if_neg z]
end CC
