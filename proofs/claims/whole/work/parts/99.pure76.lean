/-! trying laws: whether an assignment keeps a law, on both sides -/
def esB (sg mn se g : Nat → Nat) (V : Nat → Nat → Nat → Nat) (lf rt : Nat → Nat) (k : Nat) : Bool := decide (eT sg mn se g V (lf k) = eT sg mn se g V (rt k))
def kpB (sg mn se g : Nat → Nat) (V : Nat → Nat → Nat → Nat) (lf rt lw : Nat → Nat) (j : Nat) : Bool := !(alB (esB sg mn se g V lf rt) (lw j) (lw (j + 1) - 1 - lw j)) || esB sg mn se g V lf rt (lw (j + 1) - 1)
theorem LLP_rows {nl ns T : Nat} {sg mn se lf rt lw : Nat → Nat} (hP : LLP nl ns T sg mn se lf rt lw) : (∀ m k, k + m = ns → lf k ≤ T) ∧ (∀ m j, j + m = nl → lw j ≤ ns) ∧ ∀ k, k < ns → lf k < rt k ∧ rt k < lf (k + 1) ∧ lf (k + 1) ≤ T ∧ Sub sg mn se (lf k) (lf (k + 1)) := by
  obtain ⟨⟨a1, a2, a3, a4⟩, b, ⟨c1, c2, c3, c4⟩, dd, e⟩ := hP
  have A : ∀ m k, k + m = ns → lf k ≤ T := by
    intro m
    induction m with
    | zero => intro k hk; rw [show k = ns by omega, c2]; exact Nat.le_refl _
    | succ m ih =>
      intro k hk
      have h1 := ih (k + 1) (by omega)
      obtain ⟨t1, t2⟩ := dd k (by omega)
      have := TT_lt _ _ _ t1
      have := TT_lt _ _ _ t2
      omega
  refine ⟨A, ?_, fun k hk => ?_⟩
  · intro m
    induction m with
    | zero => intro j hj; rw [show j = nl by omega, c4]; exact Nat.le_refl _
    | succ m ih =>
      intro j hj
      have := ih (j + 1) (by omega)
      have := e j (by omega)
      omega
  · obtain ⟨t1, t2⟩ := dd k hk
    refine ⟨TT_lt _ _ _ t1, TT_lt _ _ _ t2, A (ns - (k + 1)) (k + 1) (by omega), fun t h1 h2 => ?_⟩
    by_cases q : t < rt k
    · obtain ⟨D', e', x1, x2, x3⟩ := TT_sub 8 (lf k) (rt k) t t1 h1 q
      have := TT_lt _ _ _ t2
      exact ⟨D', e', x1, by omega, x3⟩
    · obtain ⟨D', e', x1, x2, x3⟩ := TT_sub 8 (rt k) (lf (k + 1)) t t2 (by omega) h2
      exact ⟨D', e', x1, x2, x3⟩
theorem ix7s {i j : Nat} (hi : i < 4) (hj : j < 7) : wr (wr (wr (7 * (i : Int)) + (j : Int)) + 1) = ((7 * i + (j + 1) : Nat) : Int) := by rw [ix7 hi (by omega), wr_s (by omega)]; rfl
section KP
variable {F n d i A L nl ns T : Nat} {ar : List Nat} {tb : Nat → Nat → Int} {sg mn se lf rt lw : Nat → Nat} {g : Nat → Nat}
theorem isSame_m {h : HF} (hd : d < 10) (hi : i < 4) (hw : WF n ar tb) (hr : RepM h 184 185 186 187 d n ar tb) (hM : LLM h i nl ns T sg mn se lf rt lw) (hP : LLP nl ns T sg mn se lf rt lw) (hf : fitP ar sg mn T) (hg : ∀ v, v < 3 → g v < n) (hx : h 181 37 = (g 0 : Int) ∧ h 181 38 = (g 1 : Int) ∧ h 181 39 = (g 2 : Int)) {k : Nat} (hk : k < ns) : fX12_isSame F 181 (d : Int) (i : Int) (k : Int) h = some (bi (esB sg mn se g (vl tb n ar) lf rt k), h) := by
  obtain ⟨-, -, C⟩ := LLP_rows hP
  obtain ⟨c1, c2, c3, c4⟩ := C k hk
  have hns := hP.1.2.2.2
  obtain ⟨t1, t2⟩ := hP.2.2.2.1 k hk
  obtain ⟨r1, r2⟩ := hM.2.2.1 k hk
  have W := worth_eq (F := F) (g := g) hd hi hw hr hP.1.2.2.1 hM.2.1 hP.2.1 hf hg hx 10 8
  unfold fX12_isSame
  rw [ix40 hi (show k < 41 by omega), rdm19 (by omega), r1, W (lf k) (rt k) (by omega) t1 (by omega), zbd_some, rdm20 (by omega), r2, W (rt k) _ (by omega) t2 c3, zbd_some]
  simp only [zjn_eq]
  unfold esB eT
  by_cases q : ev sg mn se g (vl tb n ar) 10 (lf k) = ev sg mn se g (vl tb n ar) 10 (rt k)
  · rw [if_pos (by omega), decide_eq_true q]; rfl
  · rw [if_neg (by omega), decide_eq_false q]; rfl
theorem keeps_mL {h : HF} (hd : d < 10) (hi : i < 4) (hw : WF n ar tb) (hr : RepM h 184 185 186 187 d n ar tb) (hM : LLM h i nl ns T sg mn se lf rt lw) (hP : LLP nl ns T sg mn se lf rt lw) (hf : fitP ar sg mn T) (hg : ∀ v, v < 3 → g v < n) (hx : h 181 37 = (g 0 : Int) ∧ h 181 38 = (g 1 : Int) ∧ h 181 39 = (g 2 : Int)) {la : Nat} (hla : la ≤ ns) {k69 k61 : HF → RO} : ∀ (m v N : Nat), v + m = la → m + 1 ≤ N → LX12_keeps_43 F 181 (d : Int) (i : Int) (la : Int) k69 k61 N (v : Int) h = if alB (esB sg mn se g (vl tb n ar) lf rt) v m = true then k69 h else k61 h := by
  have hns := hP.1.2.2.2
  intro m
  induction m with
  | zero =>
    intro v N hv hN
    obtain ⟨N, rfl⟩ : ∃ M, N = M + 1 := ⟨N - 1, by omega⟩
    rw [LX12_keeps_43, if_neg (by omega)]
    rfl
  | succ m ih =>
    intro v N hv hN
    obtain ⟨N, rfl⟩ : ∃ M, N = M + 1 := ⟨N - 1, by omega⟩
    rw [LX12_keeps_43, if_pos (by omega), isSame_m (F := F) hd hi hw hr hM hP hf hg hx (show v < ns by omega), zbd_some, zlet_eq, wr_s (by omega), ih (v + 1) N (by omega) (by omega), alB_s]
    cases esB sg mn se g (vl tb n ar) lf rt v with
    | true => rw [if_neg (show ¬ bi true = 0 by decide), Bool.true_and]
    | false => rw [if_pos (show bi false = 0 from rfl), Bool.false_and, if_neg (by decide)]
theorem keeps_m {h : HF} (hF : 50 ≤ F) (hd : d < 10) (hi : i < 4) (hw : WF n ar tb) (hr : RepM h 184 185 186 187 d n ar tb) (hM : LLM h i nl ns T sg mn se lf rt lw) (hP : LLP nl ns T sg mn se lf rt lw) (hf : fitP ar sg mn T) (hg : ∀ v, v < 3 → g v < n) (hx : h 181 37 = (g 0 : Int) ∧ h 181 38 = (g 1 : Int) ∧ h 181 39 = (g 2 : Int)) {j : Nat} (hj : j < nl) : fX12_keeps F 181 (d : Int) (i : Int) (j : Int) h = some (bi (kpB sg mn se g (vl tb n ar) lf rt lw j), h) := by
  obtain ⟨-, B, -⟩ := LLP_rows hP
  have l1 := B (nl - (j + 1)) (j + 1) (by omega)
  have l2 := hP.2.2.2.2 j hj
  have hns := hP.1.2.2.2
  have hnl := hP.1.2.1
  have r1 := (hM.2.2.2 (j + 1) (by omega)).1
  have r0 := (hM.2.2.2 j (by omega)).1
  unfold fX12_keeps
  rw [ix7s hi (show j < 7 by omega), rdm22 (by omega), r1, zlet_eq, wr_id (x := (lw (j + 1) : Int) - 1) ⟨by omega, by omega⟩, show (lw (j + 1) : Int) - 1 = ((lw (j + 1) - 1 : Nat) : Int) by omega, isSame_m (F := F) hd hi hw hr hM hP hf hg hx (show lw (j + 1) - 1 < ns by omega), zbd_some, ix7 hi (by omega), rdm22 (by omega), r0, zjn_eq, zjn_eq, keeps_mL (F := F) hd hi hw hr hM hP hf hg hx (show lw (j + 1) - 1 ≤ ns by omega) (lw (j + 1) - 1 - lw j) (lw j) F (by omega) (by omega)]
  unfold kpB
  cases esB sg mn se g (vl tb n ar) lf rt (lw (j + 1) - 1) with
  | true => rw [if_neg (show ¬ bi true = 0 by decide), Bool.or_true]; rfl
  | false =>
    rw [if_pos (show bi false = 0 from rfl), Bool.or_false]
    cases alB (esB sg mn se g (vl tb n ar) lf rt) (lw j) (lw (j + 1) - 1 - lw j) with
    | true => rfl
    | false => rfl
/-- what the class reads while it tries laws -/
def CLx (h : HF) (A L n : Nat) (ar : List Nat) (tb : Nat → Nat → Int) (nl ns T : Nat) (sg mn se lf rt lw : Nat → Nat) : Prop := RepC h A n ar tb ∧ LLC h L nl ns T sg mn se lf rt lw
theorem CLx_keep {h h' : HF} (hA : A + 3 < 91 ∨ 93 < A) (hL : LCell L) (e : ∀ c i, c < 91 ∨ 93 < c → h' c i = h c i) (hc : CLx h A L n ar tb nl ns T sg mn se lf rt lw) : CLx h' A L n ar tb nl ns T sg mn se lf rt lw := by
  have hLf := LCell_far hL
  exact ⟨RepC_keep (fun i k hi => e _ _ (by omega)) hc.1, LLC_keep (fun c i z => e _ _ (by omega)) hc.2⟩
theorem agrees_c {h : HF} {R : Int} (hF : 82 ≤ F) (hk : kt A = 0 + 3) (hA : A + 3 < 91 ∨ 93 < A) (hL : LCell L) (hw : WF n ar tb) (hc : CLx h A L n ar tb nl ns T sg mn se lf rt lw) (hP : LLP nl ns T sg mn se lf rt lw) (hf : fitP ar sg mn T) (hg : ∀ v, v < 3 → g v < n) (h92 : ∀ v, v < 3 → h 92 v = (g v : Int)) (h91 : h 91 2 = R) {k : Nat} (hks : k < ns) : ∃ (h' : HF) (R' : Int), fX5_agrees F 91 A L (k : Int) h = some (bi (esB sg mn se g (vl tb n ar) lf rt k), h') ∧ h' 91 2 = R' ∧ R ≤ R' ∧ (R' = R ∨ R' < (sto n ar ar.length : Int)) ∧ (∀ t, lf k ≤ t → t < lf (k + 1) → 3 ≤ sg t → (spT n ar sg mn se g (vl tb n ar) t : Int) ≤ R') ∧ ∀ c i, c ≠ 93 → (c ≠ 91 ∨ i ≠ 2) → h' c i = h c i := by
  have hLf := LCell_far hL
  obtain ⟨-, -, k3, k4, -⟩ := LCell_kl hL
  obtain ⟨-, -, C⟩ := LLP_rows hP
  obtain ⟨c1, c2, c3, c4⟩ := C k hks
  have hns := hP.1.2.2.2
  have hT := hP.1.2.2.1
  obtain ⟨hr, ⟨-, -⟩, hrow, hlf, hrt, -⟩ := hc
  obtain ⟨h', R', x1, x2, x3, x4, x5, x6, x7⟩ := agr_c (F := F) (g := g) hk hA hL hw hT hP.2.1 hf hg c3 c4 (u3 := (k : Int)) (kk := fun (x160_4 : Int) (h : HF) => zrd h (91 + 2) x160_4 fun x4 => zrd h (L + 4) (k : Int) fun x5 => zrd h (91 + 2) x5 fun x6 => if x4 = x6 then zrz 1 h else zrz 0 h) (lf (k + 1) - lf k) F h R (by omega) (by omega) hr hrow h92 h91 (fun t h1 h2 => absurd h2 (by omega))
  refine ⟨h', R', ?_, x2, x3, x4, fun t h1 h2 => x6 t h1 (by omega), x7⟩
  unfold fX5_agrees
  rw [zrd_ok (a := L + 3) ⟨by omega, by omega⟩, Int.toNat_natCast, hlf k (by omega), wr_s (by omega), zrd_ok (a := L + 3) ⟨by omega, by omega⟩, Int.toNat_natCast, hlf (k + 1) (by omega), zlet_eq, wr_id (x := (lf (k + 1) : Int) - 1) ⟨by omega, by omega⟩]
  rw [show lf k + (lf (k + 1) - lf k) = lf (k + 1) by omega] at x1
  simp only [zjn_eq]
  refine x1.trans ?_
  rw [rd93 (by omega), x5 _ (Nat.le_refl _) (by omega), zrd_ok (a := L + 4) ⟨by omega, by omega⟩, Int.toNat_natCast, x7 _ _ (by omega) (by omega), hrt k hks, rd93 (by omega), x5 _ (by omega) (by omega)]
  unfold esB
  by_cases q : eT sg mn se g (vl tb n ar) (lf k) = eT sg mn se g (vl tb n ar) (rt k)
  · rw [if_pos (by omega), decide_eq_true q]; rfl
  · rw [if_neg (by omega), decide_eq_false q]; rfl
theorem keeps_cL (hF : 82 ≤ F) (hk : kt A = 0 + 3) (hA : A + 3 < 91 ∨ 93 < A) (hL : LCell L) (hw : WF n ar tb) (hP : LLP nl ns T sg mn se lf rt lw) (hf : fitP ar sg mn T) (hg : ∀ v, v < 3 → g v < n) {la : Nat} (hla : la ≤ ns) {k51 : Int → HF → RO} {k43 : HF → RO} : ∀ (m v N : Nat) (h : HF) (R : Int), v + m = la → m + 1 ≤ N → CLx h A L n ar tb nl ns T sg mn se lf rt lw → (∀ v, v < 3 → h 92 v = (g v : Int)) → h 91 2 = R → ∃ (h' : HF) (R' : Int), LX5_keepsLaw_25 F 91 A L (la : Int) k51 k43 N (v : Int) h = (if alB (esB sg mn se g (vl tb n ar) lf rt) v m = true then k51 (la : Int) h' else k43 h') ∧ h' 91 2 = R' ∧ R ≤ R' ∧ (R' = R ∨ R' < (sto n ar ar.length : Int)) ∧ (alB (esB sg mn se g (vl tb n ar) lf rt) v m = true → ∀ t, lf v ≤ t → t < lf la → 3 ≤ sg t → (spT n ar sg mn se g (vl tb n ar) t : Int) ≤ R') ∧ ∀ c i, c ≠ 93 → (c ≠ 91 ∨ i ≠ 2) → h' c i = h c i := by
  have hns := hP.1.2.2.2
  intro m
  induction m with
  | zero =>
    intro v N h R hv hN hc h92 h91
    obtain ⟨N, rfl⟩ : ∃ M, N = M + 1 := ⟨N - 1, by omega⟩
    refine ⟨h, R, ?_, h91, Int.le_refl _, Or.inl rfl, fun _ t h1 h2 => absurd h2 (by rw [show la = v by omega]; omega), fun _ _ _ _ => rfl⟩
    rw [LX5_keepsLaw_25, if_neg (by omega)]
    rfl
  | succ m ih =>
    intro v N h R hv hN hc h92 h91
    obtain ⟨N, rfl⟩ : ∃ M, N = M + 1 := ⟨N - 1, by omega⟩
    obtain ⟨h1, R1, x1, x2, x3, x4, x5, x6⟩ := agrees_c (F := F) (g := g) hF hk hA hL hw hc hP hf hg h92 h91 (show v < ns by omega)
    rw [LX5_keepsLaw_25, if_pos (by omega), x1, zbd_some, zlet_eq, wr_s (by omega), alB_s]
    cases esB sg mn se g (vl tb n ar) lf rt v with
    | true =>
      rw [if_neg (show ¬ bi true = 0 by decide), Bool.true_and]
      obtain ⟨h', R', y1, y2, y3, y4, y5, y6⟩ := ih (v + 1) N h1 R1 (by omega) (by omega) (CLx_keep hA hL (fun c i z => x6 _ _ (by omega) (by omega)) hc) (fun v hv => by rw [x6 _ _ (by omega) (by omega)]; exact h92 v hv) x2
      refine ⟨h', R', y1, y2, by omega, by omega, fun q t a1 a2 a3 => ?_, fun c i z w => by rw [y6 c i z w, x6 c i z w]⟩
      by_cases z : t < lf (v + 1)
      · have := x5 t a1 z a3; omega
      · exact y5 q t (by omega) a2 a3
    | false =>
      rw [if_pos (show bi false = 0 from rfl), Bool.false_and]
      exact ⟨h1, R1, by rw [if_neg (by decide)], x2, x3, x4, fun q => absurd q (by decide), x6⟩
theorem keeps_c {h : HF} (hF : 82 ≤ F) (hk : kt A = 0 + 3) (hA : A + 3 < 91 ∨ 93 < A) (hL : LCell L) (hw : WF n ar tb) (hc : CLx h A L n ar tb nl ns T sg mn se lf rt lw) (hP : LLP nl ns T sg mn se lf rt lw) (hf : fitP ar sg mn T) (hg : ∀ v, v < 3 → g v < n) (h92 : ∀ v, v < 3 → h 92 v = (g v : Int)) {j : Nat} (hj : j < nl) : ∃ (h' : HF) (R' : Int), fX5_keepsLaw F 91 A L (j : Int) h = some (bi (kpB sg mn se g (vl tb n ar) lf rt lw j), h') ∧ h' 91 2 = R' ∧ -1 ≤ R' ∧ R' < (sto n ar ar.length : Int) ∧ (kpB sg mn se g (vl tb n ar) lf rt lw j = false → ∀ t, lf (lw j) ≤ t → t < lf (lw (j + 1)) → 3 ≤ sg t → (spT n ar sg mn se g (vl tb n ar) t : Int) ≤ R') ∧ ∀ c i, c ≠ 93 → (c ≠ 91 ∨ i ≠ 2) → h' c i = h c i := by
  have hLf := LCell_far hL
  obtain ⟨k1, -⟩ := LCell_kl hL
  obtain ⟨-, B, -⟩ := LLP_rows hP
  have l1 := B (nl - (j + 1)) (j + 1) (by omega)
  have l2 := hP.2.2.2.2 j hj
  have hns := hP.1.2.2.2
  have hnl := hP.1.2.1
  have r1 := hc.2.2.2.2.2.1 (j + 1) (by omega)
  have r0 := hc.2.2.2.2.2.1 j (by omega)
  have hc0 : CLx (stp h 91 2 (-1)) A L n ar tb nl ns T sg mn se lf rt lw := CLx_keep hA hL (fun c i z => stp_ne (by omega)) hc
  have h920 : ∀ v, v < 3 → stp h 91 2 (-1) 92 v = (g v : Int) := fun v hv => by rw [stp_ne (by omega)]; exact h92 v hv
  obtain ⟨h1, R1, x1, x2, x3, x4, x5, x6⟩ := keeps_cL (F := F) (g := g) hF hk hA hL hw hP hf hg (show lw (j + 1) - 1 ≤ ns by omega) (k51 := fun (x51_4 : Int) (h : HF) => zbd (fX5_agrees F 91 A L x51_4 h) fun r4 h => zrz r4 h) (k43 := fun (h : HF) => zrz 1 h) (lw (j + 1) - 1 - lw j) (lw j) F (stp h 91 2 (-1)) (-1) (by omega) (by omega) hc0 h920 (stp_eq _ _ _ _)
  have hc1 : CLx h1 A L n ar tb nl ns T sg mn se lf rt lw := CLx_keep hA hL (fun c i z => x6 _ _ (by omega) (by omega)) hc0
  obtain ⟨h2, R2, y1, y2, y3, y4, y5, y6⟩ := agrees_c (F := F) (g := g) hF hk hA hL hw hc1 hP hf hg (fun v hv => by rw [x6 _ _ (by omega) (by omega)]; exact h920 v hv) x2 (show lw (j + 1) - 1 < ns by omega)
  have eq0 : ∀ y : RO, LX5_keepsLaw_25 F 91 A L ((lw (j + 1) - 1 : Nat) : Int) (fun (x51_4 : Int) (h : HF) => zbd (fX5_agrees F 91 A L x51_4 h) fun r4 h => zrz r4 h) (fun (h : HF) => zrz 1 h) F (lw j : Int) (stp h 91 2 (-1)) = y → fX5_keepsLaw F 91 A L (j : Int) h = y := fun y e => by
    unfold fX5_keepsLaw
    rw [zpf_eq, wr_s (by omega), zrd_ok (a := L + 1) ⟨by omega, by omega⟩, Int.toNat_natCast, stp_ne (by omega), r1, zlet_eq, wr_id (x := (lw (j + 1) : Int) - 1) ⟨by omega, by omega⟩, show (lw (j + 1) : Int) - 1 = ((lw (j + 1) - 1 : Nat) : Int) by omega, zrd_ok (a := L + 1) ⟨by omega, by omega⟩, Int.toNat_natCast, stp_ne (by omega), r0, zjn_eq, zjn_eq]
    exact e
  unfold kpB
  cases ha : alB (esB sg mn se g (vl tb n ar) lf rt) (lw j) (lw (j + 1) - 1 - lw j) with
  | true =>
    rw [ha, if_pos rfl] at x1
    refine ⟨h2, R2, eq0 _ (x1.trans ?_), y2, by omega, by omega, fun q t a1 a2 a3 => ?_, fun c i z w => by rw [y6 c i z w, x6 c i z w, stp_ne (by omega)]⟩
    · rw [y1, zbd_some]
      cases esB sg mn se g (vl tb n ar) lf rt (lw (j + 1) - 1) <;> rfl
    · by_cases z : t < lf (lw (j + 1) - 1)
      · have := x5 ha t a1 z a3; omega
      · exact y5 t (by omega) (by rw [show lw (j + 1) - 1 + 1 = lw (j + 1) by omega]; exact a2) a3
  | false =>
    rw [ha, if_neg (by decide)] at x1
    refine ⟨h1, R1, eq0 _ (x1.trans ?_), x2, by omega, by omega, fun q => absurd q (by simp), fun c i z w => by rw [x6 c i z w, stp_ne (by omega)]⟩
    rfl
end KP
