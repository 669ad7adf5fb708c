/-! trying laws: the reference's assignments; how many values a variable has -/
/-- how many values variable v has in law j -/
def nvr (n : Nat) (sg lf lw : Nat → Nat) (j v : Nat) : Nat := if exB (fun t => decide (sg t = v)) (lf (lw j)) (lf (lw (j + 1)) - lf (lw j)) = true then n else 1
theorem nvr_le {n : Nat} {sg lf lw : Nat → Nat} {j v : Nat} (hn : 1 ≤ n) : nvr n sg lf lw j v ≤ n := by
  unfold nvr
  by_cases q : exB (fun t => decide (sg t = v)) (lf (lw j)) (lf (lw (j + 1)) - lf (lw j)) = true
  · rw [if_pos q]; exact Nat.le_refl _
  · rw [if_neg q]; exact hn
/-- all that trying law j gives: how many assignments break it, the first of them, whether it stopped -/
def trJ (n : Nat) (ar : List Nat) (tb : Nat → Nat → Int) (sg mn se lf rt lw : Nat → Nat) (j : Nat) (on : Bool) : Nat × Int × Bool := xL (fun x y z => kpB sg mn se (gv x y z) (vl tb n ar) lf rt lw j) on (nvr n sg lf lw j 1) (nvr n sg lf lw j 2) (nvr n sg lf lw j 0) 0 0 (-1)
section TL
variable {F n d i A L nl ns T : Nat} {ar : List Nat} {tb : Nat → Nat → Int} {sg mn se lf rt lw : Nat → Nat} {on : Bool} {j xs ys zs : Nat}
/-- what the reference reads while it tries laws -/
def MLx (h : HF) (d i n : Nat) (ar : List Nat) (tb : Nat → Nat → Int) (nl ns T : Nat) (sg mn se lf rt lw : Nat → Nat) : Prop := RepM h 184 185 186 187 d n ar tb ∧ LLM h i nl ns T sg mn se lf rt lw
theorem MLx_keep {h h' : HF} (e : ∀ c i, c ≠ 181 → h' c i = h c i) (hc : MLx h d i n ar tb nl ns T sg mn se lf rt lw) : MLx h' d i n ar tb nl ns T sg mn se lf rt lw := by
  refine ⟨RepM_keep (fun k => ⟨e _ _ (by omega), e _ _ (by omega), e _ _ (by omega), e _ _ (by omega)⟩) hc.1, ?_⟩
  obtain ⟨-, ⟨a1, a2⟩, a3, a4, a5⟩ := hc
  refine ⟨⟨by rw [e _ _ (by omega)]; exact a1, by rw [e _ _ (by omega)]; exact a2⟩, fun t ht => ?_, fun k hk => by rw [e _ _ (by omega), e _ _ (by omega)]; exact a4 k hk, fun j hj => by rw [e _ _ (by omega), e _ _ (by omega)]; exact a5 j hj⟩
  obtain ⟨b1, b2, b3, b4⟩ := a3 t ht
  exact ⟨by rw [e _ _ (by omega)]; exact b1, by rw [e _ _ (by omega)]; exact b2, fun z => by rw [e _ _ (by omega)]; exact b3 z, fun z => by rw [e _ _ (by omega)]; exact b4 z⟩
theorem tz_m (hF : 82 ≤ F) (hd : d < 10) (hi : i < 4) (hw : WF n ar tb) (hP : LLP nl ns T sg mn se lf rt lw) (hf : fitP ar sg mn T) (hj : j < nl) (hxs : xs ≤ n) (hys : ys ≤ n) (hzs : zs ≤ n) {x y : Nat} (hx : x < xs) (hy : y < ys) {k150 k134 : Int → HF → RO} : ∀ (m z N : Nat) (h : HF) (c : Nat) (f : Int), z + m = zs → m + 1 ≤ N → c + m < 1000 → MLx h d i n ar tb nl ns T sg mn se lf rt lw → h 181 37 = (x : Int) → h 181 38 = (y : Int) → h 181 39 = (z : Int) → h 181 40 = f → ∃ h', LX12_failing_71 F 181 (d : Int) (i : Int) (j : Int) (bi on) (xs : Int) (ys : Int) (zs : Int) k150 k134 N (c : Int) h = (if (zL (fun x y z => kpB sg mn se (gv x y z) (vl tb n ar) lf rt lw j) on x y m z c f).2.2 = true then k134 (((zL (fun x y z => kpB sg mn se (gv x y z) (vl tb n ar) lf rt lw j) on x y m z c f).1 : Nat) : Int) h' else k150 (((zL (fun x y z => kpB sg mn se (gv x y z) (vl tb n ar) lf rt lw j) on x y m z c f).1 : Nat) : Int) h') ∧ h' 181 40 = (zL (fun x y z => kpB sg mn se (gv x y z) (vl tb n ar) lf rt lw j) on x y m z c f).2.1 ∧ ∀ c i, (c ≠ 181 ∨ (i ≠ 39 ∧ i ≠ 40)) → h' c i = h c i := by
  have hn7 := hw.1.2
  intro m
  induction m with
  | zero =>
    intro z N h c f hz hN hc1 hc h7 h8 h9 h0
    obtain ⟨N, rfl⟩ : ∃ M, N = M + 1 := ⟨N - 1, by omega⟩
    refine ⟨h, ?_, h0, fun _ _ _ => rfl⟩
    rw [LX12_failing_71, zgf_eq, h9, if_neg (by omega)]
    rfl
  | succ m ih =>
    intro z N h c f hz hN hc1 hc h7 h8 h9 h0
    obtain ⟨N, rfl⟩ : ∃ M, N = M + 1 := ⟨N - 1, by omega⟩
    have kp := keeps_m (F := F) (g := gv x y z) (by omega) hd hi hw hc.1 hc.2 hP hf (gv_lt (show x < n by omega) (show y < n by omega) (show z < n by omega)) ⟨h7, h8, h9⟩ hj
    rw [LX12_failing_71, zgf_eq, h9, if_pos (by omega), kp, zbd_some]
    simp only [zjn_eq, zlet_eq, zgf_eq, zpf_eq]
    rw [zL_s, h7, h8, h9, h0, wr_s (by omega)]
    cases hkp : kpB sg mn se (gv x y z) (vl tb n ar) lf rt lw j with
    | true =>
      rw [if_neg (show ¬ bi true = 0 by decide), if_pos rfl, wr_s (by omega)]
      obtain ⟨h', y1, y2, y3⟩ := ih (z + 1) N (stp h 181 39 ((z + 1 : Nat) : Int)) c f (by omega) (by omega) (by omega) (MLx_keep (fun c i q => stp_ne (by omega)) hc) (by rw [stp_ne (by omega)]; exact h7) (by rw [stp_ne (by omega)]; exact h8) (stp_eq _ _ _ _) (by rw [stp_ne (by omega)]; exact h0)
      exact ⟨h', y1, y2, fun c i q => by rw [y3 c i q, stp_ne (by omega)]⟩
    | false =>
      rw [if_pos (show bi false = 0 from rfl), if_neg (show ¬ false = true by decide)]
      have two : ∀ K : HF → RO, (if (c : Int) = 0 then K (stp h 181 40 (wr (wr (wr (49 * (x : Int)) + wr (7 * (y : Int))) + (z : Int)))) else K (stp h 181 40 f)) = K (stp h 181 40 (if c = 0 then cdA x y z else f)) := fun K => by
        by_cases q : c = 0
        · rw [if_pos (by omega), if_pos q, cd_wr (by omega) (by omega) (by omega)]
        · rw [if_neg (by omega), if_neg q]
      rw [two (fun h => if bi on = 0 then LX12_failing_71 F 181 (d : Int) (i : Int) (j : Int) (bi on) (xs : Int) (ys : Int) (zs : Int) k150 k134 N ((c + 1 : Nat) : Int) (stp h 181 39 (wr (h 181 39 + 1))) else k134 ((c + 1 : Nat) : Int) h)]
      cases on with
      | true =>
        rw [if_neg (show ¬ bi true = 0 by decide), if_pos rfl]
        exact ⟨_, rfl, stp_eq _ _ _ _, fun c' i q => stp_ne (by omega)⟩
      | false =>
        rw [if_pos (show bi false = 0 from rfl), if_neg (show ¬ false = true by decide), stp_ne (show (181 : Nat) ≠ 181 ∨ (39 : Nat) ≠ 40 by decide), h9, wr_s (by omega)]
        obtain ⟨h', y1, y2, y3⟩ := ih (z + 1) N (stp (stp h 181 40 (if c = 0 then cdA x y z else f)) 181 39 ((z + 1 : Nat) : Int)) (c + 1) (if c = 0 then cdA x y z else f) (by omega) (by omega) (by omega) (MLx_keep (fun c i q => by rw [stp_ne (by omega), stp_ne (by omega)]) hc) (by rw [stp_ne (by omega), stp_ne (by omega)]; exact h7) (by rw [stp_ne (by omega), stp_ne (by omega)]; exact h8) (stp_eq _ _ _ _) (by rw [stp_ne (by omega), stp_eq])
        exact ⟨h', y1, y2, fun c i q => by rw [y3 c i q, stp_ne (by omega), stp_ne (by omega)]⟩
theorem ty_m (hF : 82 ≤ F) (hd : d < 10) (hi : i < 4) (hw : WF n ar tb) (hP : LLP nl ns T sg mn se lf rt lw) (hf : fitP ar sg mn T) (hj : j < nl) (hxs : xs ≤ n) (hys : ys ≤ n) (hzs : zs ≤ n) {x : Nat} (hx : x < xs) {k163 k134 : Int → HF → RO} : ∀ (m y N : Nat) (h : HF) (c : Nat) (f : Int), y + m = ys → m + 1 ≤ N → c + 7 * m < 900 → MLx h d i n ar tb nl ns T sg mn se lf rt lw → h 181 37 = (x : Int) → h 181 38 = (y : Int) → h 181 40 = f → ∃ h', LX12_failing_57 F 181 (d : Int) (i : Int) (j : Int) (bi on) (xs : Int) (ys : Int) (zs : Int) k163 k134 N (c : Int) h = (if (yL (fun x y z => kpB sg mn se (gv x y z) (vl tb n ar) lf rt lw j) on x zs m y c f).2.2 = true then k134 (((yL (fun x y z => kpB sg mn se (gv x y z) (vl tb n ar) lf rt lw j) on x zs m y c f).1 : Nat) : Int) h' else k163 (((yL (fun x y z => kpB sg mn se (gv x y z) (vl tb n ar) lf rt lw j) on x zs m y c f).1 : Nat) : Int) h') ∧ h' 181 40 = (yL (fun x y z => kpB sg mn se (gv x y z) (vl tb n ar) lf rt lw j) on x zs m y c f).2.1 ∧ ∀ c i, (c ≠ 181 ∨ (i ≠ 38 ∧ i ≠ 39 ∧ i ≠ 40)) → h' c i = h c i := by
  have hn7 := hw.1.2
  intro m
  induction m with
  | zero =>
    intro y N h c f hy hN hc1 hc h7 h8 h0
    obtain ⟨N, rfl⟩ : ∃ M, N = M + 1 := ⟨N - 1, by omega⟩
    refine ⟨h, ?_, h0, fun _ _ _ => rfl⟩
    rw [LX12_failing_57, zgf_eq, h8, if_neg (by omega)]
    rfl
  | succ m ih =>
    intro y N h c f hy hN hc1 hc h7 h8 h0
    obtain ⟨N, rfl⟩ : ∃ M, N = M + 1 := ⟨N - 1, by omega⟩
    rw [LX12_failing_57, zgf_eq, h8, if_pos (by omega), zpf_eq, zjn_eq, yL_s]
    obtain ⟨h2, y1, y2, y3⟩ := tz_m (F := F) (on := on) hF hd hi hw hP hf hj hxs hys hzs hx (show y < ys by omega) (k150 := fun (x150_8 : Int) (h : HF) => zgf h 181 38 fun x7 => zpf h 181 38 (wr (x7 + 1)) fun h => LX12_failing_57 F 181 (d : Int) (i : Int) (j : Int) (bi on) (xs : Int) (ys : Int) (zs : Int) k163 k134 N x150_8 h) (k134 := k134) zs 0 F (stp h 181 39 0) c f (by omega) (by omega) (by omega) (MLx_keep (fun c i q => stp_ne (by omega)) hc) (by rw [stp_ne (by omega)]; exact h7) (by rw [stp_ne (by omega)]; exact h8) (stp_eq _ _ _ _) (by rw [stp_ne (by omega)]; exact h0)
    have le := zL_le (kp := fun x y z => kpB sg mn se (gv x y z) (vl tb n ar) lf rt lw j) (on := on) (x := x) (y := y) zs 0 c f
    by_cases q : (zL (fun x y z => kpB sg mn se (gv x y z) (vl tb n ar) lf rt lw j) on x y zs 0 c f).2.2 = true
    · rw [if_pos q] at y1
      rw [if_pos q]
      exact ⟨h2, by rw [if_pos q]; exact y1, y2, fun c i z => by rw [y3 c i (by omega), stp_ne (by omega)]⟩
    · rw [if_neg q] at y1
      rw [if_neg q]
      obtain ⟨h', z1, z2, z3⟩ := ih (y + 1) N (stp h2 181 38 ((y + 1 : Nat) : Int)) (zL (fun x y z => kpB sg mn se (gv x y z) (vl tb n ar) lf rt lw j) on x y zs 0 c f).1 (zL (fun x y z => kpB sg mn se (gv x y z) (vl tb n ar) lf rt lw j) on x y zs 0 c f).2.1 (by omega) (by omega) (by omega) (MLx_keep (fun c i q => by rw [stp_ne (by omega), y3 _ _ (by omega), stp_ne (by omega)]) hc) (by rw [stp_ne (by omega), y3 _ _ (by omega), stp_ne (by omega)]; exact h7) (stp_eq _ _ _ _) (by rw [stp_ne (by omega)]; exact y2)
      refine ⟨h', ?_, z2, fun c i q => by rw [z3 c i q, stp_ne (by omega), y3 c i (by omega), stp_ne (by omega)]⟩
      refine y1.trans ?_
      rw [zgf_eq, y3 _ _ (by omega), stp_ne (by omega), h8, wr_s (by omega), zpf_eq]
      exact z1
theorem tx_m (hF : 82 ≤ F) (hd : d < 10) (hi : i < 4) (hw : WF n ar tb) (hP : LLP nl ns T sg mn se lf rt lw) (hf : fitP ar sg mn T) (hj : j < nl) (hxs : xs ≤ n) (hys : ys ≤ n) (hzs : zs ≤ n) {k176 k134 : Int → HF → RO} : ∀ (m x N : Nat) (h : HF) (c : Nat) (f : Int), x + m = xs → m + 1 ≤ N → c + 49 * m < 800 → MLx h d i n ar tb nl ns T sg mn se lf rt lw → h 181 37 = (x : Int) → h 181 40 = f → ∃ h', LX12_failing_43 F 181 (d : Int) (i : Int) (j : Int) (bi on) (xs : Int) (ys : Int) (zs : Int) k176 k134 N (c : Int) h = (if (xL (fun x y z => kpB sg mn se (gv x y z) (vl tb n ar) lf rt lw j) on ys zs m x c f).2.2 = true then k134 (((xL (fun x y z => kpB sg mn se (gv x y z) (vl tb n ar) lf rt lw j) on ys zs m x c f).1 : Nat) : Int) h' else k176 (((xL (fun x y z => kpB sg mn se (gv x y z) (vl tb n ar) lf rt lw j) on ys zs m x c f).1 : Nat) : Int) h') ∧ h' 181 40 = (xL (fun x y z => kpB sg mn se (gv x y z) (vl tb n ar) lf rt lw j) on ys zs m x c f).2.1 ∧ ∀ c i, (c ≠ 181 ∨ (i ≠ 37 ∧ i ≠ 38 ∧ i ≠ 39 ∧ i ≠ 40)) → h' c i = h c i := by
  have hn7 := hw.1.2
  intro m
  induction m with
  | zero =>
    intro x N h c f hx hN hc1 hc h7 h0
    obtain ⟨N, rfl⟩ : ∃ M, N = M + 1 := ⟨N - 1, by omega⟩
    refine ⟨h, ?_, h0, fun _ _ _ => rfl⟩
    rw [LX12_failing_43, zgf_eq, h7, if_neg (by omega)]
    rfl
  | succ m ih =>
    intro x N h c f hx hN hc1 hc h7 h0
    obtain ⟨N, rfl⟩ : ∃ M, N = M + 1 := ⟨N - 1, by omega⟩
    rw [LX12_failing_43, zgf_eq, h7, if_pos (by omega), zpf_eq, zjn_eq, xL_s]
    obtain ⟨h2, y1, y2, y3⟩ := ty_m (F := F) (on := on) hF hd hi hw hP hf hj hxs hys hzs (show x < xs by omega) (k163 := fun (x163_8 : Int) (h : HF) => zgf h 181 37 fun x5 => zpf h 181 37 (wr (x5 + 1)) fun h => LX12_failing_43 F 181 (d : Int) (i : Int) (j : Int) (bi on) (xs : Int) (ys : Int) (zs : Int) k176 k134 N x163_8 h) (k134 := k134) ys 0 F (stp h 181 38 0) c f (by omega) (by omega) (by omega) (MLx_keep (fun c i q => stp_ne (by omega)) hc) (by rw [stp_ne (by omega)]; exact h7) (stp_eq _ _ _ _) (by rw [stp_ne (by omega)]; exact h0)
    have le := yL_le (kp := fun x y z => kpB sg mn se (gv x y z) (vl tb n ar) lf rt lw j) (on := on) (x := x) (zs := zs) (by omega) ys 0 c f
    by_cases q : (yL (fun x y z => kpB sg mn se (gv x y z) (vl tb n ar) lf rt lw j) on x zs ys 0 c f).2.2 = true
    · rw [if_pos q] at y1
      rw [if_pos q]
      exact ⟨h2, by rw [if_pos q]; exact y1, y2, fun c i z => by rw [y3 c i (by omega), stp_ne (by omega)]⟩
    · rw [if_neg q] at y1
      rw [if_neg q]
      obtain ⟨h', z1, z2, z3⟩ := ih (x + 1) N (stp h2 181 37 ((x + 1 : Nat) : Int)) (yL (fun x y z => kpB sg mn se (gv x y z) (vl tb n ar) lf rt lw j) on x zs ys 0 c f).1 (yL (fun x y z => kpB sg mn se (gv x y z) (vl tb n ar) lf rt lw j) on x zs ys 0 c f).2.1 (by omega) (by omega) (by omega) (MLx_keep (fun c i q => by rw [stp_ne (by omega), y3 _ _ (by omega), stp_ne (by omega)]) hc) (stp_eq _ _ _ _) (by rw [stp_ne (by omega)]; exact y2)
      refine ⟨h', ?_, z2, fun c i q => by rw [z3 c i q, stp_ne (by omega), y3 c i (by omega), stp_ne (by omega)]⟩
      refine y1.trans ?_
      rw [zgf_eq, y3 _ _ (by omega), stp_ne (by omega), h7, wr_s (by omega), zpf_eq]
      exact z1
theorem given_L {h : HF} (hi : i < 4) (hc : LLM h i nl ns T sg mn se lf rt lw) (hP : LLP nl ns T sg mn se lf rt lw) (hj : j < nl) {v : Nat} {u1 : Int} {k61 k48 : HF → RO} : ∀ (m t N : Nat), t + m = lf (lw (j + 1)) → m + 1 ≤ N → LX12_given_13 F 181 u1 (i : Int) (j : Int) (v : Int) k61 k48 N (t : Int) h = if exB (fun t => decide (sg t = v)) t m = true then k48 h else k61 h := by
  obtain ⟨A1, B1, -⟩ := LLP_rows hP
  have l1 := B1 (nl - (j + 1)) (j + 1) (by omega)
  have l2 := A1 (ns - lw (j + 1)) (lw (j + 1)) (by omega)
  have hT := hP.1.2.2.1
  have hnl := hP.1.2.1
  have r1 := (hc.2.2.2 (j + 1) (by omega)).2
  intro m
  induction m with
  | zero =>
    intro t N ht hN
    obtain ⟨N, rfl⟩ : ∃ M, N = M + 1 := ⟨N - 1, by omega⟩
    rw [LX12_given_13, ix7s hi (show j < 7 by omega), rdm23 (by omega), r1, if_neg (by omega)]
    rfl
  | succ m ih =>
    intro t N ht hN
    obtain ⟨N, rfl⟩ : ∃ M, N = M + 1 := ⟨N - 1, by omega⟩
    have r2 := (hc.2.1 t (by omega)).1
    rw [LX12_given_13, ix7s hi (show j < 7 by omega), rdm23 (by omega), r1, if_pos (by omega), ix80 hi (show t < 81 by omega), rdm13 (by omega), r2, zlet_eq, wr_s (by omega), ih (t + 1) N (by omega) (by omega), exB_s]
    by_cases q : sg t = v
    · rw [if_pos (by omega), decide_eq_true q, Bool.true_or, if_pos rfl]
    · rw [if_neg (by omega), decide_eq_false q, Bool.false_or]
theorem given_m {h : HF} (hF : 82 ≤ F) (hd : d < 10) (hi : i < 4) (hw : WF n ar tb) (hc : MLx h d i n ar tb nl ns T sg mn se lf rt lw) (hP : LLP nl ns T sg mn se lf rt lw) (hj : j < nl) {v : Nat} : fX12_given F 181 (d : Int) (i : Int) (j : Int) (v : Int) h = some (((nvr n sg lf lw j v : Nat) : Int), h) := by
  obtain ⟨A1, B1, C1⟩ := LLP_rows hP
  have l1 := B1 (nl - (j + 1)) (j + 1) (by omega)
  have l2 := A1 (ns - lw (j + 1)) (lw (j + 1)) (by omega)
  have l3 := hP.2.2.2.2 j hj
  have hT := hP.1.2.2.1
  have hnl := hP.1.2.1
  have mono : ∀ m k, k + m ≤ ns → lf k ≤ lf (k + m) := by
    intro m
    induction m with
    | zero => intro k _; exact Nat.le_refl _
    | succ m ih =>
      intro k hk
      have h1 := ih k (by omega)
      obtain ⟨c1, c2, _⟩ := C1 (k + m) (by omega)
      rw [show k + (m + 1) = k + m + 1 by omega]
      omega
  have l4 := mono (lw (j + 1) - lw j) (lw j) (by omega)
  rw [show lw j + (lw (j + 1) - lw j) = lw (j + 1) by omega] at l4
  have r0 := (hc.2.2.2.2 j (by omega)).2
  unfold fX12_given
  rw [ix7 hi (by omega), rdm23 (by omega), r0, zjn_eq, zjn_eq]
  refine (given_L (F := F) (v := v) (u1 := (d : Int)) hi hc.2 hP hj (k61 := fun h => some (1, h)) (k48 := fun h => zrd h (181 + 3) (d : Int) fun x2 => some (x2, h)) (lf (lw (j + 1)) - lf (lw j)) (lf (lw j)) F (by omega) (by omega)).trans ?_
  unfold nvr
  by_cases q : exB (fun t => decide (sg t = v)) (lf (lw j)) (lf (lw (j + 1)) - lf (lw j)) = true
  · rw [if_pos q, if_pos q, msz hd hc.1]
  · rw [if_neg q, if_neg q]; rfl
theorem failing_m {h : HF} (hF : 82 ≤ F) (hd : d < 10) (hi : i < 4) (hw : WF n ar tb) (hc : MLx h d i n ar tb nl ns T sg mn se lf rt lw) (hP : LLP nl ns T sg mn se lf rt lw) (hf : fitP ar sg mn T) (hj : j < nl) : ∃ h', fX12_failing F 181 (d : Int) (i : Int) (j : Int) (bi on) h = some ((((trJ n ar tb sg mn se lf rt lw j on).1 : Nat) : Int), h') ∧ h' 181 40 = (trJ n ar tb sg mn se lf rt lw j on).2.1 ∧ ∀ c i, (c ≠ 181 ∨ (i ≠ 37 ∧ i ≠ 38 ∧ i ≠ 39 ∧ i ≠ 40)) → h' c i = h c i := by
  have g0 : fX12_given F 181 (d : Int) (i : Int) (j : Int) 0 h = some (((nvr n sg lf lw j 0 : Nat) : Int), h) := given_m (v := 0) hF hd hi hw hc hP hj
  have g1 : fX12_given F 181 (d : Int) (i : Int) (j : Int) 1 h = some (((nvr n sg lf lw j 1 : Nat) : Int), h) := given_m (v := 1) hF hd hi hw hc hP hj
  have g2 : fX12_given F 181 (d : Int) (i : Int) (j : Int) 2 h = some (((nvr n sg lf lw j 2 : Nat) : Int), h) := given_m (v := 2) hF hd hi hw hc hP hj
  have hn := hw.1
  have n0 := nvr_le (sg := sg) (lf := lf) (lw := lw) (j := j) (v := 0) hn.1
  have n1 := nvr_le (sg := sg) (lf := lf) (lw := lw) (j := j) (v := 1) hn.1
  have n2 := nvr_le (sg := sg) (lf := lf) (lw := lw) (j := j) (v := 2) hn.1
  unfold fX12_failing
  rw [g0, zbd_some, g1, zbd_some, g2, zbd_some, zpf_eq, zpf_eq, zjn_eq, zjn_eq]
  obtain ⟨h', x1, x2, x3⟩ := tx_m (F := F) (on := on) hF hd hi hw hP hf hj n0 n1 n2 (k176 := fun x h => some (x, h)) (k134 := fun x h => some (x, h)) (nvr n sg lf lw j 0) 0 F (stp (stp h 181 40 (-1)) 181 37 0) 0 (-1) (by omega) (by omega) (by omega) (MLx_keep (fun c i q => by rw [stp_ne (by omega), stp_ne (by omega)]) hc) (stp_eq _ _ _ _) (by rw [stp_ne (by omega), stp_eq])
  refine ⟨h', x1.trans ?_, x2, fun c i q => by rw [x3 c i q, stp_ne (by omega), stp_ne (by omega)]⟩
  unfold trJ
  by_cases q : (xL (fun x y z => kpB sg mn se (gv x y z) (vl tb n ar) lf rt lw j) on (nvr n sg lf lw j 1) (nvr n sg lf lw j 2) (nvr n sg lf lw j 0) 0 0 (-1)).2.2 = true
  · rw [if_pos q]
  · rw [if_neg q]
theorem nv_bit {h : HF} {w : Nat} (hV : LVar h L nl sg lf lw) (hj : j < nl) (hw : h (L + 2) j = (w : Int)) {v : Nat} (hv : v < 3) : w < 8 ∧ (w.testBit v = true ↔ exB (fun t => decide (sg t = v)) (lf (lw j)) (lf (lw (j + 1)) - lf (lw j)) = true) := by
  obtain ⟨w', a1, a2, a3⟩ := hV j hj
  obtain rfl : w = w' := by omega
  refine ⟨a2, ?_⟩
  rw [a3 v hv, exB_iff]
  constructor
  · rintro ⟨t, t1, t2, t3⟩
    exact ⟨t, t1, by omega, decide_eq_true t3⟩
  · rintro ⟨t, t1, t2, t3⟩
    exact ⟨t, t1, by omega, of_decide_eq_true t3⟩
theorem tryLaw_c {h : HF} (hF : 82 ≤ F) (hk : kt A = 0 + 3) (hA : A + 3 < 91 ∨ 93 < A) (hL : LCell L) (hw : WF n ar tb) (hc : CLx h A L n ar tb nl ns T sg mn se lf rt lw) (hP : LLP nl ns T sg mn se lf rt lw) (hf : fitP ar sg mn T) (hj : j < nl) : ∃ h', fX5_tryLaw F 91 A L (j : Int) (bi on) h = some (0, h') ∧ h' 91 0 = (((trJ n ar tb sg mn se lf rt lw j on).1 : Nat) : Int) ∧ h' 91 1 = (trJ n ar tb sg mn se lf rt lw j on).2.1 ∧ ((trJ n ar tb sg mn se lf rt lw j on).2.2 = true → RQ h' n ar tb sg mn se lf rt lw j (nvr n sg lf lw j 0) (nvr n sg lf lw j 1) (nvr n sg lf lw j 2)) ∧ ∀ c i, c < 91 ∨ 93 < c → h' c i = h c i := by
  have hLf := LCell_far hL
  obtain ⟨-, k2, -⟩ := LCell_kl hL
  have hnl := hP.1.2.1
  have hn := hw.1
  have n0 := nvr_le (sg := sg) (lf := lf) (lw := lw) (j := j) (v := 0) hn.1
  have n1 := nvr_le (sg := sg) (lf := lf) (lw := lw) (j := j) (v := 1) hn.1
  have n2 := nvr_le (sg := sg) (lf := lf) (lw := lw) (j := j) (v := 2) hn.1
  obtain ⟨w, a1, a2, a3⟩ := hc.2.2.2.2.2.2 j hj
  have hV : LVar h L nl sg lf lw := hc.2.2.2.2.2.2
  generalize hg : stp (stp h 91 0 0) 91 1 (-1) = h0
  have gk : ∀ c i, c ≠ 91 → h0 c i = h c i := fun c i q => by rw [← hg, stp_ne (by omega), stp_ne (by omega)]
  have hc0 : CLx h0 A L n ar tb nl ns T sg mn se lf rt lw := CLx_keep hA hL (fun c i q => gk _ _ (by omega)) hc
  have bit : ∀ (v : Nat) (K : Int → HF → RO), v < 3 → (zbd (fX11_hasBit F (w : Int) (v : Int) h0) fun r h => if r = 0 then K 1 h else zgf h A 0 fun x => K x h) = K ((nvr n sg lf lw j v : Nat) : Int) h0 := fun v K hv => by
    obtain ⟨_, b2⟩ := nv_bit hV hj a1 hv
    rw [hasBit_eq (by omega) (by omega), zbd_some]
    unfold nvr
    by_cases q : w.testBit v = true
    · rw [q, if_neg (show ¬ bi true = 0 by decide), if_pos (b2.mp q), zgf_eq, hc0.1.1]
    · have q' : w.testBit v = false := by simpa using q
      rw [q', if_pos (show bi false = 0 from rfl), if_neg (fun z => q (b2.mpr z))]
      rfl
  obtain ⟨h', x1, x2, x3, x4, x5⟩ := tx_c (F := F) (on := on) hF hk hA hL hw hP hf hj n0 n1 n2 (k202 := fun h => some (0, h)) (k183 := fun h => some (0, h)) (nvr n sg lf lw j 0) 0 F h0 0 (-1) (by omega) (by omega) (by omega) hc0 (by rw [← hg, stp_ne (by omega), stp_eq]; rfl) (by rw [← hg, stp_eq])
  refine ⟨h', ?_, x2, x3, x4, fun c i q => by rw [x5 c i q, gk c i (by omega)]⟩
  unfold fX5_tryLaw
  rw [zpf_eq, zpf_eq, hg, zrd_ok (a := L + 2) ⟨by omega, by omega⟩, Int.toNat_natCast, gk _ _ (by omega), a1]
  simp only [zjn_eq]
  refine (bit 0 (fun y35_0 h => zbd (fX11_hasBit F (w : Int) 1 h) fun r3 h => if r3 = 0 then (zbd (fX11_hasBit F (w : Int) 2 h) fun r4 h => if r4 = 0 then LX5_tryLaw_78 F 91 A L (j : Int) (bi on) y35_0 1 1 (fun h => some (0, h)) (fun h => some (0, h)) F 0 h else zgf h A 0 fun x11 => LX5_tryLaw_78 F 91 A L (j : Int) (bi on) y35_0 1 x11 (fun h => some (0, h)) (fun h => some (0, h)) F 0 h) else zgf h A 0 fun x12 => (zbd (fX11_hasBit F (w : Int) 2 h) fun r4 h => if r4 = 0 then LX5_tryLaw_78 F 91 A L (j : Int) (bi on) y35_0 x12 1 (fun h => some (0, h)) (fun h => some (0, h)) F 0 h else zgf h A 0 fun x11 => LX5_tryLaw_78 F 91 A L (j : Int) (bi on) y35_0 x12 x11 (fun h => some (0, h)) (fun h => some (0, h)) F 0 h)) (by omega)).trans ?_
  refine (bit 1 (fun y54_0 h => zbd (fX11_hasBit F (w : Int) 2 h) fun r4 h => if r4 = 0 then LX5_tryLaw_78 F 91 A L (j : Int) (bi on) ((nvr n sg lf lw j 0 : Nat) : Int) y54_0 1 (fun h => some (0, h)) (fun h => some (0, h)) F 0 h else zgf h A 0 fun x11 => LX5_tryLaw_78 F 91 A L (j : Int) (bi on) ((nvr n sg lf lw j 0 : Nat) : Int) y54_0 x11 (fun h => some (0, h)) (fun h => some (0, h)) F 0 h) (by omega)).trans ?_
  refine (bit 2 (fun y73_0 h => LX5_tryLaw_78 F 91 A L (j : Int) (bi on) ((nvr n sg lf lw j 0 : Nat) : Int) ((nvr n sg lf lw j 1 : Nat) : Int) y73_0 (fun h => some (0, h)) (fun h => some (0, h)) F 0 h) (by omega)).trans ?_
  refine x1.trans ?_
  by_cases q : (xL (fun x y z => kpB sg mn se (gv x y z) (vl tb n ar) lf rt lw j) on (nvr n sg lf lw j 1) (nvr n sg lf lw j 2) (nvr n sg lf lw j 0) 0 0 (-1)).2.2 = true
  · rw [if_pos q]
  · rw [if_neg q]
end TL
