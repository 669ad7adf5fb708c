/-! holds, fails, witness, count -/
section ON
variable {kp : Nat → Nat → Nat → Bool} {x y ys zs : Nat}
theorem zL_on : ∀ (m z c : Nat) (f : Int), (zL kp true x y m z c f).2.2 = false → (zL kp true x y m z c f).1 = c
  | 0, _, _, _, _ => rfl
  | m + 1, z, c, f, h => by
    rw [zL_s] at h ⊢
    by_cases q : kp x y z = true
    · rw [if_pos q] at h ⊢; exact zL_on m (z + 1) c f h
    · rw [if_neg q, if_pos rfl] at h; exact absurd (show true = false from h) (by decide)
theorem yL_on : ∀ (m y c : Nat) (f : Int), (yL kp true x zs m y c f).2.2 = false → (yL kp true x zs m y c f).1 = c
  | 0, _, _, _, _ => rfl
  | m + 1, y, c, f, h => by
    rw [yL_s] at h ⊢
    by_cases q : (zL kp true x y zs 0 c f).2.2 = true
    · rw [if_pos q] at h; rw [h] at q; exact absurd q (by decide)
    · rw [if_neg q] at h ⊢
      rw [yL_on m (y + 1) _ _ h]
      exact zL_on zs 0 c f (by simpa using q)
theorem xL_on : ∀ (m x c : Nat) (f : Int), (xL kp true ys zs m x c f).2.2 = false → (xL kp true ys zs m x c f).1 = c
  | 0, _, _, _, _ => rfl
  | m + 1, x, c, f, h => by
    rw [xL_s] at h ⊢
    by_cases q : (yL kp true x zs ys 0 c f).2.2 = true
    · rw [if_pos q] at h; rw [h] at q; exact absurd q (by decide)
    · rw [if_neg q] at h ⊢
      rw [xL_on m (x + 1) _ _ h]
      exact yL_on ys 0 c f (by simpa using q)
end ON
/-- the first law that some assignment breaks -/
def fbI (n : Nat) (ar : List Nat) (tb : Nat → Nat → Int) (sg mn se lf rt lw : Nat → Nat) : Nat → Nat → Option Nat
  | 0, _ => none
  | m + 1, j => if 0 < (trJ n ar tb sg mn se lf rt lw j true).1 then some j else fbI n ar tb sg mn se lf rt lw m (j + 1)
def opI : Option Nat → Int
  | none => -1
  | some j => (j : Int)
section FB
variable {F n d i A L nl ns T : Nat} {ar : List Nat} {tb : Nat → Nat → Int} {sg mn se lf rt lw : Nat → Nat} {j : Nat}
theorem tr_on (h : 0 < (trJ n ar tb sg mn se lf rt lw j true).1) : (trJ n ar tb sg mn se lf rt lw j true).2.2 = true := by
  cases q : (trJ n ar tb sg mn se lf rt lw j true).2.2 with
  | true => rfl
  | false =>
    have := xL_on (kp := fun x y z => kpB sg mn se (gv x y z) (vl tb n ar) lf rt lw j) _ _ _ _ q
    unfold trJ at h
    omega
theorem fb_c (hF : 82 ≤ F) (hk : kt A = 0 + 3) (hA : A + 3 < 91 ∨ 93 < A) (hL : LCell L) (hw : WF n ar tb) (hP : LLP nl ns T sg mn se lf rt lw) (hf : fitP ar sg mn T) {k33 : HF → RO} {k25 : Int → HF → RO} : ∀ (m j N : Nat) (h : HF), j + m = nl → m + 1 ≤ N → CLx h A L n ar tb nl ns T sg mn se lf rt lw → ∃ h', LX5_firstBroken_2 F 91 A L k33 k25 N (j : Int) h = (match fbI n ar tb sg mn se lf rt lw m j with | none => k33 h' | some e => k25 (e : Int) h') ∧ (∀ e, fbI n ar tb sg mn se lf rt lw m j = some e → e < nl ∧ RQ h' n ar tb sg mn se lf rt lw e (nvr n sg lf lw e 0) (nvr n sg lf lw e 1) (nvr n sg lf lw e 2)) ∧ ∀ c i, c < 91 ∨ 93 < c → h' c i = h c i := by
  have hLf := LCell_far hL
  have hnl := hP.1.2.1
  intro m
  induction m with
  | zero =>
    intro j N h hj hN hc
    obtain ⟨N, rfl⟩ : ∃ M, N = M + 1 := ⟨N - 1, by omega⟩
    refine ⟨h, ?_, fun e q => ?_, fun _ _ _ => rfl⟩
    · rw [LX5_firstBroken_2, zgf_eq, hc.2.1.1, if_neg (by omega)]
      rfl
    · cases q
  | succ m ih =>
    intro j N h hj hN hc
    obtain ⟨N, rfl⟩ : ∃ M, N = M + 1 := ⟨N - 1, by omega⟩
    obtain ⟨h1, x1, x2, x3, x4, x5⟩ := tryLaw_c (F := F) (on := true) hF hk hA hL hw hc hP hf (show j < nl by omega)
    have x1' : fX5_tryLaw F 91 A L (j : Int) 1 h = some (0, h1) := x1
    rw [LX5_firstBroken_2, zgf_eq, hc.2.1.1, if_pos (by omega), x1', zbd_some, zgf_eq, x2]
    by_cases q : 0 < (trJ n ar tb sg mn se lf rt lw j true).1
    · have ef : fbI n ar tb sg mn se lf rt lw (m + 1) j = some j := if_pos q
      rw [if_pos (by omega), ef]
      refine ⟨h1, rfl, fun e z => ?_, x5⟩
      injection z with z
      subst z
      exact ⟨by omega, x4 (tr_on q)⟩
    · have ef : fbI n ar tb sg mn se lf rt lw (m + 1) j = fbI n ar tb sg mn se lf rt lw m (j + 1) := if_neg q
      rw [if_neg (by omega), ef, zlet_eq, wr_s (by omega)]
      obtain ⟨h', y1, y2, y3⟩ := ih (j + 1) N h1 (by omega) (by omega) (CLx_keep hA hL x5 hc)
      exact ⟨h', y1, y2, fun c i z => by rw [y3 c i z, x5 c i z]⟩
theorem firstBroken_c {h : HF} (hF : 82 ≤ F) (hk : kt A = 0 + 3) (hA : A + 3 < 91 ∨ 93 < A) (hL : LCell L) (hw : WF n ar tb) (hP : LLP nl ns T sg mn se lf rt lw) (hf : fitP ar sg mn T) (hc : CLx h A L n ar tb nl ns T sg mn se lf rt lw) : ∃ h', fX5_firstBroken F 91 A L h = some (opI (fbI n ar tb sg mn se lf rt lw nl 0), h') ∧ (∀ e, fbI n ar tb sg mn se lf rt lw nl 0 = some e → e < nl ∧ RQ h' n ar tb sg mn se lf rt lw e (nvr n sg lf lw e 0) (nvr n sg lf lw e 1) (nvr n sg lf lw e 2)) ∧ ∀ c i, c < 91 ∨ 93 < c → h' c i = h c i := by
  have hnl := hP.1.2.1
  obtain ⟨h', x1, x2, x3⟩ := fb_c (F := F) hF hk hA hL hw hP hf (k33 := fun h => some (-1, h)) (k25 := fun x h => some (x, h)) nl 0 F h (by omega) (by omega) hc
  refine ⟨h', ?_, x2, x3⟩
  unfold fX5_firstBroken
  rw [zjn_eq, zjn_eq]
  refine x1.trans ?_
  cases fbI n ar tb sg mn se lf rt lw nl 0 <;> rfl
theorem br_m (hF : 82 ≤ F) (hd : d < 10) (hi : i < 4) (hw : WF n ar tb) (hP : LLP nl ns T sg mn se lf rt lw) (hf : fitP ar sg mn T) {k31 : HF → RO} {k23 : Int → HF → RO} : ∀ (m j N : Nat) (h : HF), j + m = nl → m + 1 ≤ N → MLx h d i n ar tb nl ns T sg mn se lf rt lw → ∃ h', LX12_broken_2 F 181 (d : Int) (i : Int) k31 k23 N (j : Int) h = (match fbI n ar tb sg mn se lf rt lw m j with | none => k31 h' | some e => k23 (e : Int) h') ∧ ∀ c i, (c ≠ 181 ∨ (i ≠ 37 ∧ i ≠ 38 ∧ i ≠ 39 ∧ i ≠ 40)) → h' c i = h c i := by
  have hnl := hP.1.2.1
  intro m
  induction m with
  | zero =>
    intro j N h hj hN hc
    obtain ⟨N, rfl⟩ : ∃ M, N = M + 1 := ⟨N - 1, by omega⟩
    refine ⟨h, ?_, fun _ _ _ => rfl⟩
    rw [LX12_broken_2, rdm24 (by omega), hc.2.1.1, if_neg (by omega)]
    rfl
  | succ m ih =>
    intro j N h hj hN hc
    obtain ⟨N, rfl⟩ : ∃ M, N = M + 1 := ⟨N - 1, by omega⟩
    obtain ⟨h1, x1, x2, x3⟩ := failing_m (F := F) (on := true) hF hd hi hw hc hP hf (show j < nl by omega)
    have x1' : fX12_failing F 181 (d : Int) (i : Int) (j : Int) 1 h = some ((((trJ n ar tb sg mn se lf rt lw j true).1 : Nat) : Int), h1) := x1
    rw [LX12_broken_2, rdm24 (by omega), hc.2.1.1, if_pos (by omega), x1', zbd_some]
    by_cases q : 0 < (trJ n ar tb sg mn se lf rt lw j true).1
    · have ef : fbI n ar tb sg mn se lf rt lw (m + 1) j = some j := if_pos q
      rw [if_pos (by omega), ef]
      exact ⟨h1, rfl, x3⟩
    · have ef : fbI n ar tb sg mn se lf rt lw (m + 1) j = fbI n ar tb sg mn se lf rt lw m (j + 1) := if_neg q
      rw [if_neg (by omega), ef, zlet_eq, wr_s (by omega)]
      obtain ⟨h', y1, y3⟩ := ih (j + 1) N h1 (by omega) (by omega) (MLx_keep (fun c i z => x3 c i (by omega)) hc)
      exact ⟨h', y1, fun c i z => by rw [y3 c i z, x3 c i z]⟩
theorem broken_m {h : HF} (hF : 82 ≤ F) (hd : d < 10) (hi : i < 4) (hw : WF n ar tb) (hP : LLP nl ns T sg mn se lf rt lw) (hf : fitP ar sg mn T) (hc : MLx h d i n ar tb nl ns T sg mn se lf rt lw) : ∃ h', fX12_broken F 181 (d : Int) (i : Int) h = some (opI (fbI n ar tb sg mn se lf rt lw nl 0), h') ∧ ∀ c i, (c ≠ 181 ∨ (i ≠ 37 ∧ i ≠ 38 ∧ i ≠ 39 ∧ i ≠ 40)) → h' c i = h c i := by
  have hnl := hP.1.2.1
  obtain ⟨h', x1, x3⟩ := br_m (F := F) hF hd hi hw hP hf (k31 := fun h => some (-1, h)) (k23 := fun x h => some (x, h)) nl 0 F h (by omega) (by omega) hc
  refine ⟨h', ?_, x3⟩
  unfold fX12_broken
  rw [zjn_eq, zjn_eq]
  refine x1.trans ?_
  cases fbI n ar tb sg mn se lf rt lw nl 0 <;> rfl
end FB
theorem held0 {F A : Nat} {h : HF} : fX0_isHeld F A h = some (bl (0 < h A 0), h) := by
  unfold fX0_isHeld
  simp only [zgf_eq, zjn_eq]
  by_cases q : 0 < h A 0
  · rw [if_pos q, bl_pos q]; rfl
  · rw [if_neg q, bl_neg q]; rfl
theorem held4 {F A : Nat} {h : HF} : fX4_isHeld F A h = some (bl (0 < h A 0), h) := by
  unfold fX4_isHeld
  simp only [zgf_eq, zjn_eq]
  by_cases q : 0 < h A 0
  · rw [if_pos q, bl_pos q]; rfl
  · rw [if_neg q, bl_neg q]; rfl
/-- the refusals of the calls that try laws; or what the two hold -/
theorem trial {F : Nat} {x y : Int} {h : HF} (hF : 82 ≤ F) (hD : ∀ d, d < 8 → DR h d) (h6 : I6d h) :
    (∃ r : Int, r ≠ 0 ∧ fX11_refuseTrial F 0 x y h = some (r, h) ∧ ∀ g : HF, (∀ c i, 182 ≤ c → g c i = h c i) → fX12_refuseLaws F 181 x y g = some (r, g))
    ∨ ∃ (d i n L nl ns T : Nat) (ar : List Nat) (tb : Nat → Nat → Int) (sg mn se lf rt lw : Nat → Nat), x = (d : Int) ∧ y = (i : Int) ∧ d < 8 ∧ i < 4 ∧ WF n ar tb ∧ h 77 i = (L : Int) ∧ LCell L ∧ LLP nl ns T sg mn se lf rt lw ∧ fitP ar sg mn T ∧ CLx h (117 + 4 * d) L n ar tb nl ns T sg mn se lf rt lw ∧ fX11_refuseTrial F 0 x y h = some (0, h) ∧ ∀ g : HF, (∀ c i, 182 ≤ c → g c i = h c i) → MLx g d i n ar tb nl ns T sg mn se lf rt lw ∧ fX12_refuseLaws F 181 x y g = some (0, g) := by
  by_cases qd : 0 ≤ x ∧ x < 8
  · by_cases qi : 0 ≤ y ∧ y < 4
    · obtain ⟨d, rfl⟩ : ∃ d : Nat, x = (d : Int) := ⟨x.toNat, by omega⟩
      obtain ⟨i, rfl⟩ : ∃ i : Nat, y = (i : Int) := ⟨y.toNat, by omega⟩
      have hd : d < 8 := by omega
      have hi : i < 4 := by omega
      obtain ⟨L, l1, l2, l3⟩ := h6.2.1 i hi
      obtain ⟨s1, s2⟩ := DR_size (hD d hd)
      have eC : fX11_refuseTrial F 0 (d : Int) (i : Int) h = if 0 < h 184 d then (if 0 < h L 0 then (zbd (fX4_fits F L (117 + 4 * d) h) fun r9 h => if r9 = 0 then some (-4, h) else some (0, h)) else some (-2, h)) else some (-2, h) := by
        unfold fX11_refuseTrial
        rw [isDrawer_c, zbd_some, bl_pos qd, zjn_eq, if_neg (show ¬ (1 : Int) = 0 by decide), isList_c, zbd_some, bl_pos qi, if_neg (show ¬ (1 : Int) = 0 by decide), drw_at hd, held0, zbd_some, s1, zjn_eq]
        by_cases q1 : 0 < h 184 d
        · rw [if_pos q1, bl_pos q1, if_neg (show ¬ (1 : Int) = 0 by decide), zrl_at hi l1, held4, zbd_some]
          by_cases q2 : 0 < h L 0
          · rw [if_pos q2, bl_pos q2, if_neg (show ¬ (1 : Int) = 0 by decide), zrl_at hi l1, drw_at hd]
            rfl
          · rw [if_neg q2, bl_neg q2, if_pos rfl]
        · rw [if_neg q1, bl_neg q1, if_pos rfl]
      have eM : ∀ g : HF, (∀ c i, 182 ≤ c → g c i = h c i) → fX12_refuseLaws F 181 (d : Int) (i : Int) g = if h 184 d = 0 then some (-2, g) else if h 205 i = 0 then some (-2, g) else (zbd (fX12_fits F 181 (d : Int) (i : Int) g) fun r5 h => if r5 = 0 then some (-4, h) else some (0, h)) := fun g tk => by
        unfold fX12_refuseLaws
        rw [isDrawer_m, zbd_some, bl_pos qd, zjn_eq, if_neg (show ¬ (1 : Int) = 0 by decide), isList_m, zbd_some, bl_pos qi, if_neg (show ¬ (1 : Int) = 0 by decide), rdm3 (by omega), tk _ _ (by omega), zjn_eq, zjn_eq, rdm24 (by omega), tk _ _ (by omega)]
      rw [eC]
      by_cases q1 : h 184 d = 0
      · refine Or.inl ⟨-2, by decide, ?_, fun g tk => ?_⟩
        · rw [if_neg (by omega)]
        · rw [eM g tk, if_pos q1]
      · rw [if_pos (show 0 < h 184 d by omega)]
        obtain ⟨e1, e2⟩ := l3
        by_cases q2 : h 205 i = 0
        · refine Or.inl ⟨-2, by decide, ?_, fun g tk => ?_⟩
          · rw [if_neg (by omega)]
          · rw [eM g tk, if_neg q1, if_pos q2]
        · obtain ⟨nl, ns, T, sg, mn, se, lf, rt, lw, b1, b2, b3⟩ := e2.resolve_left q2
          rcases hD d hd with z | ⟨n, ar, tb, hw, hc, hm⟩
          · exact absurd z.2.2.2.2 q1
          · have hM : ∀ g : HF, (∀ c i, 182 ≤ c → g c i = h c i) → MLx g d i n ar tb nl ns T sg mn se lf rt lw := fun g tk => by
              refine ⟨RepM_keep (fun k => ⟨tk _ _ (by omega), tk _ _ (by omega), tk _ _ (by omega), tk _ _ (by omega)⟩) hm, LLM_move b3.1.2.2.1 b3.1.2.2.2 b3.1.2.1 (fun c z => tk _ _ (by omega)) (fun c t z w => tk _ _ (by omega)) (fun c t z w => tk _ _ (by omega)) (fun c t z w => tk _ _ (by omega)) b2⟩
            have hT := b3.1.2.2.1
            have h7 : ∀ t, t < T → sg t < 7 := fun t ht => (b3.2.1 t ht).1
            have nlp := b3.1.1
            have b11 := b1.1.1
            rw [if_pos (show 0 < h L 0 by omega)]
            have f1 := fits_c_eq (F := F) hF (kt_drw d hd) hw hc l2 hT b1.1.2 (fun t ht => ⟨(b1.2.1 t ht).1, (b1.2.1 t ht).2.1⟩) h7
            have f2 : ∀ g : HF, (∀ c i, 182 ≤ c → g c i = h c i) → fX12_fits F 181 (d : Int) (i : Int) g = some (bi (alB (fitB ar sg mn) 0 T), g) := fun g tk => fits_m_eq (F := F) hF (show d < 10 by omega) hi hw (hM g tk).1 hT (hM g tk).2.1.2 (fun t ht => ⟨((hM g tk).2.2.1 t ht).1, ((hM g tk).2.2.1 t ht).2.1⟩) h7
            rw [f1, zbd_some]
            cases qf : alB (fitB ar sg mn) 0 T with
            | true =>
              refine Or.inr ⟨d, i, n, L, nl, ns, T, ar, tb, sg, mn, se, lf, rt, lw, rfl, rfl, hd, hi, hw, l1, l2, b3, fitB_iff.mp qf, ⟨hc, b1⟩, rfl, fun g tk => ⟨hM g tk, ?_⟩⟩
              rw [eM g tk, if_neg q1, if_neg q2, f2 g tk, zbd_some, qf]
              rfl
            | false =>
              refine Or.inl ⟨-4, by decide, rfl, fun g tk => ?_⟩
              rw [eM g tk, if_neg q1, if_neg q2, f2 g tk, zbd_some, qf]
              rfl
    · refine Or.inl ⟨-3, by decide, ?_, fun g tk => ?_⟩
      · unfold fX11_refuseTrial
        rw [isDrawer_c, zbd_some, zjn_eq, bl_pos qd, if_neg (show ¬ (1 : Int) = 0 by decide), isList_c, zbd_some, bl_neg qi, if_pos rfl]
      · unfold fX12_refuseLaws
        rw [isDrawer_m, zbd_some, zjn_eq, bl_pos qd, if_neg (show ¬ (1 : Int) = 0 by decide), isList_m, zbd_some, bl_neg qi, if_pos rfl]
  · refine Or.inl ⟨-3, by decide, ?_, fun g tk => ?_⟩
    · unfold fX11_refuseTrial
      rw [isDrawer_c, zbd_some, zjn_eq, bl_neg qd, if_pos rfl]
    · unfold fX12_refuseLaws
      rw [isDrawer_m, zbd_some, zjn_eq, bl_neg qd, if_pos rfl]
/-- from a heap that trying laws left -/
theorem Inv_try {I6 : HF → Prop} {h h1 h2 : HF} (hI : InvP I4d I5d I6 h) (e1 : ∀ c i, c < 91 ∨ 93 < c → h1 c i = h c i) (e2 : ∀ c i, (c ≠ 181 ∨ (i ≠ 37 ∧ i ≠ 38 ∧ i ≠ 39 ∧ i ≠ 40)) → h2 c i = stp h1 181 0 0 c i) : InvP I4d I5d I6 h2 := Inv_while hI (fun c k z => by rw [e2 c k (by omega), stp_ne (by omega), e1 c k (by omega)])
theorem ps_holds {F : Nat} (hF : 200 ≤ F) : PS_holds F (InvP I4d I5d I6d) := by
  intro h a1 a2 hI _ _
  have hD : ∀ d, d < 8 → DR h d := fun d hd => I4d_get hI.2.2.2.1 hd
  have h6 := I6d_get hI.2.2.2.2.2
  unfold fX11_holds fX12_holds
  rcases trial (F := F) (x := a1) (y := a2) (by omega) hD h6 with ⟨r, r0, x1, x2⟩ | ⟨d, i, n, L, nl, ns, T, ar, tb, sg, mn, se, lf, rt, lw, rfl, rfl, hd, hi, hw, l1, l2, hP, hf, hc, x1, x2⟩
  · refine ⟨r, h, stp h 181 0 0, ?_, ?_, Inv_thrown hI⟩
    · rw [x1, zbd_some, zjn_eq, if_neg r0]
    · rw [zpf_eq, x2 _ (fun c i z => stp_ne (by omega)), zbd_some, zjn_eq, if_neg r0]
  · obtain ⟨h1, y1, -, y3⟩ := firstBroken_c (F := F) (by omega) (kt_drw d hd) (Or.inr (by omega)) l2 hw hP hf hc
    obtain ⟨hM, z1⟩ := x2 (stp h1 181 0 0) (fun c i z => by rw [stp_ne (by omega), y3 c i (by omega)])
    obtain ⟨h2, w1, w2⟩ := broken_m (F := F) (by omega) (show d < 10 by omega) hi hw hP hf hM
    refine ⟨opI (fbI n ar tb sg mn se lf rt lw nl 0), h1, h2, ?_, ?_, Inv_try hI y3 w2⟩
    · rw [x1, zbd_some, zjn_eq, if_pos rfl, drw_at hd, zrl_at hi l1]
      show zbd (fX5_firstBroken F 91 (117 + 4 * d) L h) _ = _
      rw [y1, zbd_some]
    · rw [zpf_eq, z1, zbd_some, zjn_eq, if_pos rfl, w1, zbd_some]
/-- which laws a list has, on both sides -/
theorem lawOk {F nl L d i : Nat} {a3 : Int} {h : HF} (hi : i < 4) (x1 : fX11_refuseTrial F 0 (d : Int) (i : Int) h = some (0, h)) (l1 : h 77 i = (L : Int)) (l0 : h L 0 = (nl : Int)) : fX11_refuseLaw F 0 (d : Int) (i : Int) a3 h = some (if 0 ≤ a3 ∧ a3 < (nl : Int) then 0 else -3, h) := by
  unfold fX11_refuseLaw
  rw [x1, zbd_some, if_pos rfl, zjn_eq, zjn_eq]
  by_cases q : a3 < 0
  · rw [if_pos q, if_neg (by omega)]
  · rw [if_neg q, zrl_at hi l1, zgf_eq, l0]
    by_cases q1 : a3 < (nl : Int)
    · rw [if_pos q1, if_pos (by omega)]
    · rw [if_neg q1, if_neg (by omega)]
theorem ps_fails {F : Nat} (hF : 200 ≤ F) : PS_fails F (InvP I4d I5d I6d) := by
  intro h a1 a2 a3 hI _ _ _
  have hD : ∀ d, d < 8 → DR h d := fun d hd => I4d_get hI.2.2.2.1 hd
  have h6 := I6d_get hI.2.2.2.2.2
  unfold fX11_fails fX12_fails
  rcases trial (F := F) (x := a1) (y := a2) (by omega) hD h6 with ⟨r, r0, x1, x2⟩ | ⟨d, i, n, L, nl, ns, T, ar, tb, sg, mn, se, lf, rt, lw, rfl, rfl, hd, hi, hw, l1, l2, hP, hf, hc, x1, x2⟩
  · refine ⟨r, h, stp h 181 0 0, ?_, ?_, Inv_thrown hI⟩
    · unfold fX11_refuseLaw
      rw [x1, zbd_some, if_neg r0, zbd_some, if_neg r0]
    · rw [zpf_eq, x2 _ (fun c i z => stp_ne (by omega)), zbd_some, if_neg r0]
  · have ok := lawOk (F := F) (a3 := a3) hi x1 l1 hc.2.1.1
    by_cases q : 0 ≤ a3 ∧ a3 < (nl : Int)
    · obtain ⟨j, rfl⟩ : ∃ j : Nat, a3 = (j : Int) := ⟨a3.toNat, by omega⟩
      obtain ⟨h1, y1, y2, -, -, y3⟩ := tryLaw_c (F := F) (on := false) (by omega) (kt_drw d hd) (Or.inr (by omega)) l2 hw hc hP hf (show j < nl by omega)
      obtain ⟨hM, z1⟩ := x2 (stp h1 181 0 0) (fun c i z => by rw [stp_ne (by omega), y3 c i (by omega)])
      obtain ⟨h2, w1, -, w2⟩ := failing_m (F := F) (on := false) (by omega) (show d < 10 by omega) hi hw hM hP hf (show j < nl by omega)
      have y1' : fX5_tryLaw F 91 (117 + 4 * d) L (j : Int) 0 h = some (0, h1) := y1
      have w1' : fX12_failing F 181 (d : Int) (i : Int) (j : Int) 0 (stp h1 181 0 0) = _ := w1
      refine ⟨(((trJ n ar tb sg mn se lf rt lw j false).1 : Nat) : Int), h1, h2, ?_, ?_, Inv_try hI y3 w2⟩
      · rw [ok, if_pos q, zbd_some, if_pos rfl, drw_at hd, zrl_at hi l1]
        show zbd (fX5_tryLaw F 91 (117 + 4 * d) L (j : Int) 0 h) _ = _
        rw [y1', zbd_some]
        show some (h1 91 0, h1) = _
        rw [y2]
      · rw [zpf_eq, z1, zbd_some, if_pos rfl, zjn_eq, zjn_eq, if_neg (by omega), rdm24 (by omega), hM.2.1.1, if_pos q.2, w1', zbd_some]
    · refine ⟨-3, h, stp h 181 0 0, ?_, ?_, Inv_thrown hI⟩
      · rw [ok, if_neg q, zbd_some, if_neg (by decide)]
      · obtain ⟨hM, z1⟩ := x2 (stp h 181 0 0) (fun c i z => stp_ne (by omega))
        rw [zpf_eq, z1, zbd_some, if_pos rfl, zjn_eq, zjn_eq, rdm24 (by omega), hM.2.1.1]
        by_cases q1 : a3 < 0
        · rw [if_pos q1]
        · rw [if_neg q1, if_neg (by omega)]
theorem ps_witness {F : Nat} (hF : 200 ≤ F) : PS_witness F (InvP I4d I5d I6d) := by
  intro h a1 a2 a3 hI _ _ _
  have hD : ∀ d, d < 8 → DR h d := fun d hd => I4d_get hI.2.2.2.1 hd
  have h6 := I6d_get hI.2.2.2.2.2
  unfold fX11_witness fX12_witness
  rcases trial (F := F) (x := a1) (y := a2) (by omega) hD h6 with ⟨r, r0, x1, x2⟩ | ⟨d, i, n, L, nl, ns, T, ar, tb, sg, mn, se, lf, rt, lw, rfl, rfl, hd, hi, hw, l1, l2, hP, hf, hc, x1, x2⟩
  · refine ⟨r, h, stp h 181 0 0, ?_, ?_, Inv_thrown hI⟩
    · unfold fX11_refuseLaw
      rw [x1, zbd_some, if_neg r0, zbd_some, if_neg r0]
    · rw [zpf_eq, x2 _ (fun c i z => stp_ne (by omega)), zbd_some, if_neg r0]
  · have ok := lawOk (F := F) (a3 := a3) hi x1 l1 hc.2.1.1
    by_cases q : 0 ≤ a3 ∧ a3 < (nl : Int)
    · obtain ⟨j, rfl⟩ : ∃ j : Nat, a3 = (j : Int) := ⟨a3.toNat, by omega⟩
      obtain ⟨h1, y1, -, y2, -, y3⟩ := tryLaw_c (F := F) (on := true) (by omega) (kt_drw d hd) (Or.inr (by omega)) l2 hw hc hP hf (show j < nl by omega)
      obtain ⟨hM, z1⟩ := x2 (stp h1 181 0 0) (fun c i z => by rw [stp_ne (by omega), y3 c i (by omega)])
      obtain ⟨h2, w1, w3, w2⟩ := failing_m (F := F) (on := true) (by omega) (show d < 10 by omega) hi hw hM hP hf (show j < nl by omega)
      have y1' : fX5_tryLaw F 91 (117 + 4 * d) L (j : Int) 1 h = some (0, h1) := y1
      have w1' : fX12_failing F 181 (d : Int) (i : Int) (j : Int) 1 (stp h1 181 0 0) = _ := w1
      refine ⟨(trJ n ar tb sg mn se lf rt lw j true).2.1, h1, h2, ?_, ?_, Inv_try hI y3 w2⟩
      · rw [ok, if_pos q, zbd_some, if_pos rfl, drw_at hd, zrl_at hi l1]
        show zbd (fX5_tryLaw F 91 (117 + 4 * d) L (j : Int) 1 h) _ = _
        rw [y1', zbd_some]
        show some (h1 91 1, h1) = _
        rw [y2]
      · rw [zpf_eq, z1, zbd_some, if_pos rfl, zjn_eq, if_neg (by omega), rdm24 (by omega), hM.2.1.1, if_pos q.2, w1', zbd_some, zgf_eq, w3]
    · refine ⟨-3, h, stp h 181 0 0, ?_, ?_, Inv_thrown hI⟩
      · rw [ok, if_neg q, zbd_some, if_neg (by decide)]
      · obtain ⟨hM, z1⟩ := x2 (stp h 181 0 0) (fun c i z => stp_ne (by omega))
        rw [zpf_eq, z1, zbd_some, if_pos rfl, zjn_eq, rdm24 (by omega), hM.2.1.1]
        by_cases q1 : a3 < 0
        · rw [if_pos q1]
        · rw [if_neg q1, if_neg (by omega)]
theorem ps_count6 {F : Nat} (hF : 9 ≤ F) : PS_count F (InvP I4d I5d I6d) := ps_count hF (fun h h6 i hi => by
  obtain ⟨L, l1, _, l3⟩ := (I6d_get h6).2.1 i hi
  exact ⟨L, l1, l3.1⟩)
