/-! trying laws: all assignments, on both sides -/
def gv (x y z v : Nat) : Nat := if v = 0 then x else if v = 1 then y else z
def cdA (x y z : Nat) : Int := ((49 * x + 7 * y + z : Nat) : Int)
def zL (kp : Nat → Nat → Nat → Bool) (on : Bool) (x y : Nat) : Nat → Nat → Nat → Int → Nat × Int × Bool
  | 0, _, c, f => (c, f, false)
  | m + 1, z, c, f => if kp x y z = true then zL kp on x y m (z + 1) c f else if on = true then (c + 1, (if c = 0 then cdA x y z else f), true) else zL kp on x y m (z + 1) (c + 1) (if c = 0 then cdA x y z else f)
def yL (kp : Nat → Nat → Nat → Bool) (on : Bool) (x zs : Nat) : Nat → Nat → Nat → Int → Nat × Int × Bool
  | 0, _, c, f => (c, f, false)
  | m + 1, y, c, f => if (zL kp on x y zs 0 c f).2.2 = true then zL kp on x y zs 0 c f else yL kp on x zs m (y + 1) (zL kp on x y zs 0 c f).1 (zL kp on x y zs 0 c f).2.1
def xL (kp : Nat → Nat → Nat → Bool) (on : Bool) (ys zs : Nat) : Nat → Nat → Nat → Int → Nat × Int × Bool
  | 0, _, c, f => (c, f, false)
  | m + 1, x, c, f => if (yL kp on x zs ys 0 c f).2.2 = true then yL kp on x zs ys 0 c f else xL kp on ys zs m (x + 1) (yL kp on x zs ys 0 c f).1 (yL kp on x zs ys 0 c f).2.1
section AL
variable {kp : Nat → Nat → Nat → Bool} {on : Bool} {x y ys zs : Nat}
theorem zL_s {m z c : Nat} {f : Int} : zL kp on x y (m + 1) z c f = if kp x y z = true then zL kp on x y m (z + 1) c f else if on = true then (c + 1, (if c = 0 then cdA x y z else f), true) else zL kp on x y m (z + 1) (c + 1) (if c = 0 then cdA x y z else f) := rfl
theorem yL_s {m c : Nat} {f : Int} : yL kp on x zs (m + 1) y c f = if (zL kp on x y zs 0 c f).2.2 = true then zL kp on x y zs 0 c f else yL kp on x zs m (y + 1) (zL kp on x y zs 0 c f).1 (zL kp on x y zs 0 c f).2.1 := rfl
theorem xL_s {m c : Nat} {f : Int} : xL kp on ys zs (m + 1) x c f = if (yL kp on x zs ys 0 c f).2.2 = true then yL kp on x zs ys 0 c f else xL kp on ys zs m (x + 1) (yL kp on x zs ys 0 c f).1 (yL kp on x zs ys 0 c f).2.1 := rfl
theorem zL_le : ∀ (m z c : Nat) (f : Int), (zL kp on x y m z c f).1 ≤ c + m
  | 0, _, _, _ => Nat.le_refl _
  | m + 1, z, c, f => by
    rw [zL_s]
    by_cases q : kp x y z = true
    · rw [if_pos q]; have := zL_le m (z + 1) c f; omega
    · rw [if_neg q]
      by_cases q1 : on = true
      · rw [if_pos q1]; show c + 1 ≤ _; omega
      · rw [if_neg q1]; have := zL_le m (z + 1) (c + 1) (if c = 0 then cdA x y z else f); omega
theorem yL_le (hz : zs ≤ 7) : ∀ (m y c : Nat) (f : Int), (yL kp on x zs m y c f).1 ≤ c + 7 * m
  | 0, _, _, _ => Nat.le_refl _
  | m + 1, y, c, f => by
    have h1 := zL_le (kp := kp) (on := on) (x := x) (y := y) zs 0 c f
    rw [yL_s]
    by_cases q : (zL kp on x y zs 0 c f).2.2 = true
    · rw [if_pos q]; omega
    · rw [if_neg q]; have := yL_le hz m (y + 1) (zL kp on x y zs 0 c f).1 (zL kp on x y zs 0 c f).2.1; omega
end AL
/-- what the class leaves where an assignment breaks a law: how far it looked -/
def RQ (h : HF) (n : Nat) (ar : List Nat) (tb : Nat → Nat → Int) (sg mn se lf rt lw : Nat → Nat) (j xs ys zs : Nat) : Prop := ∃ (R : Int) (x y z : Nat), h 91 2 = R ∧ -1 ≤ R ∧ R < (sto n ar ar.length : Int) ∧ x < xs ∧ y < ys ∧ z < zs ∧ kpB sg mn se (gv x y z) (vl tb n ar) lf rt lw j = false ∧ ∀ t, lf (lw j) ≤ t → t < lf (lw (j + 1)) → 3 ≤ sg t → (spT n ar sg mn se (gv x y z) (vl tb n ar) t : Int) ≤ R
theorem gv_lt {n x y z : Nat} (hx : x < n) (hy : y < n) (hz : z < n) : ∀ v, v < 3 → gv x y z v < n := fun v _ => by
  unfold gv
  by_cases q : v = 0
  · rw [if_pos q]; exact hx
  · rw [if_neg q]
    by_cases q1 : v = 1
    · rw [if_pos q1]; exact hy
    · rw [if_neg q1]; exact hz
theorem cd_wr {x y z : Nat} (hx : x < 7) (hy : y < 7) (hz : z < 7) : wr (wr (wr (49 * (x : Int)) + wr (7 * (y : Int))) + (z : Int)) = cdA x y z := by
  unfold cdA
  rw [wr_id (x := 49 * (x : Int)) ⟨by omega, by omega⟩, wr_id (x := 7 * (y : Int)) ⟨by omega, by omega⟩, wr_id (x := 49 * (x : Int) + 7 * (y : Int)) ⟨by omega, by omega⟩, wr_id ⟨by omega, by omega⟩]
  omega
section TL
variable {F n d i A L nl ns T : Nat} {ar : List Nat} {tb : Nat → Nat → Int} {sg mn se lf rt lw : Nat → Nat} {on : Bool} {j xs ys zs : Nat}
/-- one innermost step of the class -/
theorem tz_c (hF : 82 ≤ F) (hk : kt A = 0 + 3) (hA : A + 3 < 91 ∨ 93 < A) (hL : LCell L) (hw : WF n ar tb) (hP : LLP nl ns T sg mn se lf rt lw) (hf : fitP ar sg mn T) (hj : j < nl) (hxs : xs ≤ n) (hys : ys ≤ n) (hzs : zs ≤ n) {x y : Nat} (hx : x < xs) (hy : y < ys) {k190 : Int → HF → RO} {k183 : HF → RO} : ∀ (m z N : Nat) (h : HF) (c : Nat) (f : Int), z + m = zs → m + 1 ≤ N → c + m < 1000 → CLx h A L n ar tb nl ns T sg mn se lf rt lw → h 91 0 = (c : Int) → h 91 1 = f → ∃ h', LX5_tryLaw_98 F 91 A L (j : Int) (bi on) (xs : Int) (ys : Int) (zs : Int) (x : Int) (y : Int) k190 k183 N (z : Int) h = (if (zL (fun x y z => kpB sg mn se (gv x y z) (vl tb n ar) lf rt lw j) on x y m z c f).2.2 = true then k183 h' else k190 (y : Int) h') ∧ h' 91 0 = (((zL (fun x y z => kpB sg mn se (gv x y z) (vl tb n ar) lf rt lw j) on x y m z c f).1 : Nat) : Int) ∧ h' 91 1 = (zL (fun x y z => kpB sg mn se (gv x y z) (vl tb n ar) lf rt lw j) on x y m z c f).2.1 ∧ ((zL (fun x y z => kpB sg mn se (gv x y z) (vl tb n ar) lf rt lw j) on x y m z c f).2.2 = true → RQ h' n ar tb sg mn se lf rt lw j xs ys zs) ∧ ∀ c i, c < 91 ∨ 93 < c → h' c i = h c i := by
  have hn7 := hw.1.2
  intro m
  induction m with
  | zero =>
    intro z N h c f hz hN hc1 hc h0 h1
    obtain ⟨N, rfl⟩ : ∃ M, N = M + 1 := ⟨N - 1, by omega⟩
    refine ⟨h, ?_, h0, h1, fun q => absurd (show false = true from q) (by decide), fun _ _ _ => rfl⟩
    rw [LX5_tryLaw_98, if_neg (by omega)]
    rfl
  | succ m ih =>
    intro z N h c f hz hN hc1 hc h0 h1
    obtain ⟨N, rfl⟩ : ∃ M, N = M + 1 := ⟨N - 1, by omega⟩
    have w0 : ∀ (h : HF) (v : Int) (f : HF → RO), zwr h (91 + 1) 0 v f = f (stp h 92 0 v) := fun h v f => wt92 (i := 0) (by omega)
    have w1 : ∀ (h : HF) (v : Int) (f : HF → RO), zwr h (91 + 1) 1 v f = f (stp h 92 1 v) := fun h v f => wt92 (i := 1) (by omega)
    have w2 : ∀ (h : HF) (v : Int) (f : HF → RO), zwr h (91 + 1) 2 v f = f (stp h 92 2 v) := fun h v f => wt92 (i := 2) (by omega)
    generalize hg : stp (stp (stp h 92 0 (x : Int)) 92 1 (y : Int)) 92 2 (z : Int) = hh
    have gk : ∀ c i, c ≠ 92 → hh c i = h c i := fun c i q => by rw [← hg, stp_ne (by omega), stp_ne (by omega), stp_ne (by omega)]
    have g9 : ∀ v, v < 3 → hh 92 v = (gv x y z v : Int) := fun v hv => by
      unfold gv
      by_cases q : v = 0
      · rw [if_pos q, q, ← hg, stp_ne (by omega), stp_ne (by omega), stp_eq]
      · rw [if_neg q]
        by_cases q1 : v = 1
        · rw [if_pos q1, q1, ← hg, stp_ne (by omega), stp_eq]
        · rw [if_neg q1, show v = 2 by omega, ← hg, stp_eq]
    obtain ⟨h2, R, x1, x2, x3, x4, x5, x6⟩ := keeps_c (F := F) (g := gv x y z) hF hk hA hL hw (CLx_keep hA hL (fun c i q => gk _ _ (by omega)) hc) hP hf (gv_lt (show x < n by omega) (show y < n by omega) (show z < n by omega)) g9 hj
    have k2 : ∀ c i, (c ≠ 92 ∧ c ≠ 93 ∧ (c ≠ 91 ∨ i ≠ 2)) → h2 c i = h c i := fun c i q => by rw [x6 c i (by omega) (by omega), gk c i (by omega)]
    rw [LX5_tryLaw_98, if_pos (by omega), w0, w1, w2, hg, x1, zbd_some]
    simp only [zjn_eq, zlet_eq, zgf_eq, zpf_eq]
    rw [wr_s (by omega), zL_s, k2 91 0 (by omega), h0, wr_s (by omega)]
    cases hkp : kpB sg mn se (gv x y z) (vl tb n ar) lf rt lw j with
    | true =>
      rw [if_neg (show ¬ bi true = 0 by decide), if_pos rfl]
      obtain ⟨h', y1, y2, y3, y4, y5⟩ := ih (z + 1) N h2 c f (by omega) (by omega) (by omega) (CLx_keep hA hL (fun c i q => k2 _ _ (by omega)) hc) (by rw [k2 _ _ (by omega)]; exact h0) (by rw [k2 _ _ (by omega)]; exact h1)
      exact ⟨h', y1, y2, y3, y4, fun c i q => by rw [y5 c i q, k2 c i (by omega)]⟩
    | false =>
      rw [if_pos (show bi false = 0 from rfl), if_neg (show ¬ false = true by decide), stp_eq]
      generalize hh3 : (if ((c + 1 : Nat) : Int) = 1 then stp (stp h2 91 0 ((c + 1 : Nat) : Int)) 91 1 (wr (wr (wr (49 * (x : Int)) + wr (7 * (y : Int))) + (z : Int))) else stp h2 91 0 ((c + 1 : Nat) : Int)) = h3
      have e0 : h3 91 0 = ((c + 1 : Nat) : Int) := by
        rw [← hh3]
        by_cases q : ((c + 1 : Nat) : Int) = 1
        · rw [if_pos q, stp_ne (by omega), stp_eq]
        · rw [if_neg q, stp_eq]
      have e1 : h3 91 1 = (if c = 0 then cdA x y z else f) := by
        rw [← hh3]
        by_cases q : c = 0
        · rw [if_pos (by omega), if_pos q, stp_eq, cd_wr (by omega) (by omega) (by omega)]
        · rw [if_neg (by omega), if_neg q, stp_ne (by omega), k2 _ _ (by omega)]; exact h1
      have k3 : ∀ c' i, (c' ≠ 91 ∨ (i ≠ 0 ∧ i ≠ 1)) → h3 c' i = h2 c' i := fun c' i q => by
        rw [← hh3]
        by_cases z : ((c + 1 : Nat) : Int) = 1
        · rw [if_pos z, stp_ne (by omega), stp_ne (by omega)]
        · rw [if_neg z, stp_ne (by omega)]
      have rq : RQ h3 n ar tb sg mn se lf rt lw j xs ys zs := ⟨R, x, y, z, by rw [k3 _ _ (by omega)]; exact x2, x3, x4, hx, hy, by omega, hkp, fun t a1 a2 a3 => x5 hkp t a1 a2 a3⟩
      -- both ways of the class's last test
      have two : ∀ K : HF → RO, (if ((c + 1 : Nat) : Int) = 1 then K (stp (stp h2 91 0 ((c + 1 : Nat) : Int)) 91 1 (wr (wr (wr (49 * (x : Int)) + wr (7 * (y : Int))) + (z : Int)))) else K (stp h2 91 0 ((c + 1 : Nat) : Int))) = K h3 := fun K => by
        rw [← hh3]
        by_cases z : ((c + 1 : Nat) : Int) = 1
        · rw [if_pos z, if_pos z]
        · rw [if_neg z, if_neg z]
      rw [two (fun h => if bi on = 0 then LX5_tryLaw_98 F 91 A L (j : Int) (bi on) (xs : Int) (ys : Int) (zs : Int) (x : Int) (y : Int) k190 k183 N ((z + 1 : Nat) : Int) h else k183 h)]
      cases on with
      | true =>
        rw [if_neg (show ¬ bi true = 0 by decide), if_pos rfl]
        exact ⟨h3, rfl, e0, e1, fun _ => rq, fun c' i q => by rw [k3 _ _ (by omega), k2 _ _ (by omega)]⟩
      | false =>
        rw [if_pos (show bi false = 0 from rfl), if_neg (show ¬ false = true by decide)]
        obtain ⟨h', y1, y2, y3, y4, y5⟩ := ih (z + 1) N h3 (c + 1) (if c = 0 then cdA x y z else f) (by omega) (by omega) (by omega) (CLx_keep hA hL (fun c i q => by rw [k3 _ _ (by omega), k2 _ _ (by omega)]) hc) e0 e1
        exact ⟨h', y1, y2, y3, y4, fun c' i q => by rw [y5 c' i q, k3 _ _ (by omega), k2 c' i (by omega)]⟩
theorem ty_c (hF : 82 ≤ F) (hk : kt A = 0 + 3) (hA : A + 3 < 91 ∨ 93 < A) (hL : LCell L) (hw : WF n ar tb) (hP : LLP nl ns T sg mn se lf rt lw) (hf : fitP ar sg mn T) (hj : j < nl) (hxs : xs ≤ n) (hys : ys ≤ n) (hzs : zs ≤ n) {x : Nat} (hx : x < xs) {k196 : Int → HF → RO} {k183 : HF → RO} : ∀ (m y N : Nat) (h : HF) (c : Nat) (f : Int), y + m = ys → m + 1 ≤ N → c + 7 * m < 900 → CLx h A L n ar tb nl ns T sg mn se lf rt lw → h 91 0 = (c : Int) → h 91 1 = f → ∃ h', LX5_tryLaw_88 F 91 A L (j : Int) (bi on) (xs : Int) (ys : Int) (zs : Int) (x : Int) k196 k183 N (y : Int) h = (if (yL (fun x y z => kpB sg mn se (gv x y z) (vl tb n ar) lf rt lw j) on x zs m y c f).2.2 = true then k183 h' else k196 (x : Int) h') ∧ h' 91 0 = (((yL (fun x y z => kpB sg mn se (gv x y z) (vl tb n ar) lf rt lw j) on x zs m y c f).1 : Nat) : Int) ∧ h' 91 1 = (yL (fun x y z => kpB sg mn se (gv x y z) (vl tb n ar) lf rt lw j) on x zs m y c f).2.1 ∧ ((yL (fun x y z => kpB sg mn se (gv x y z) (vl tb n ar) lf rt lw j) on x zs m y c f).2.2 = true → RQ h' n ar tb sg mn se lf rt lw j xs ys zs) ∧ ∀ c i, c < 91 ∨ 93 < c → h' c i = h c i := by
  have hn7 := hw.1.2
  intro m
  induction m with
  | zero =>
    intro y N h c f hy hN hc1 hc h0 h1
    obtain ⟨N, rfl⟩ : ∃ M, N = M + 1 := ⟨N - 1, by omega⟩
    refine ⟨h, ?_, h0, h1, fun q => absurd (show false = true from q) (by decide), fun _ _ _ => rfl⟩
    rw [LX5_tryLaw_88, if_neg (by omega)]
    rfl
  | succ m ih =>
    intro y N h c f hy hN hc1 hc h0 h1
    obtain ⟨N, rfl⟩ : ∃ M, N = M + 1 := ⟨N - 1, by omega⟩
    rw [LX5_tryLaw_88, if_pos (by omega), zjn_eq, yL_s]
    obtain ⟨h2, y1, y2, y3, y4, y5⟩ := tz_c (F := F) (on := on) hF hk hA hL hw hP hf hj hxs hys hzs hx (show y < ys by omega) (k190 := fun (x190_10 : Int) (h : HF) => zlet (wr (x190_10 + 1)) fun x6 => LX5_tryLaw_88 F 91 A L (j : Int) (bi on) (xs : Int) (ys : Int) (zs : Int) (x : Int) k196 k183 N x6 h) (k183 := k183) zs 0 F h c f (by omega) (by omega) (by omega) hc h0 h1
    have le := zL_le (kp := fun x y z => kpB sg mn se (gv x y z) (vl tb n ar) lf rt lw j) (on := on) (x := x) (y := y) zs 0 c f
    by_cases q : (zL (fun x y z => kpB sg mn se (gv x y z) (vl tb n ar) lf rt lw j) on x y zs 0 c f).2.2 = true
    · rw [if_pos q] at y1
      rw [if_pos q]
      exact ⟨h2, by rw [if_pos q]; exact y1, y2, y3, y4, y5⟩
    · rw [if_neg q] at y1
      rw [if_neg q]
      obtain ⟨h', z1, z2, z3, z4, z5⟩ := ih (y + 1) N h2 _ _ (by omega) (by omega) (by omega) (CLx_keep hA hL (fun c i q => y5 _ _ q) hc) y2 y3
      refine ⟨h', ?_, z2, z3, z4, fun c i q => by rw [z5 c i q, y5 c i q]⟩
      rw [show (0 : Int) = ((0 : Nat) : Int) from rfl]
      refine y1.trans ?_
      rw [zlet_eq, wr_s (by omega)]
      exact z1
theorem tx_c (hF : 82 ≤ F) (hk : kt A = 0 + 3) (hA : A + 3 < 91 ∨ 93 < A) (hL : LCell L) (hw : WF n ar tb) (hP : LLP nl ns T sg mn se lf rt lw) (hf : fitP ar sg mn T) (hj : j < nl) (hxs : xs ≤ n) (hys : ys ≤ n) (hzs : zs ≤ n) {k202 : HF → RO} {k183 : HF → RO} : ∀ (m x N : Nat) (h : HF) (c : Nat) (f : Int), x + m = xs → m + 1 ≤ N → c + 49 * m < 800 → CLx h A L n ar tb nl ns T sg mn se lf rt lw → h 91 0 = (c : Int) → h 91 1 = f → ∃ h', LX5_tryLaw_78 F 91 A L (j : Int) (bi on) (xs : Int) (ys : Int) (zs : Int) k202 k183 N (x : Int) h = (if (xL (fun x y z => kpB sg mn se (gv x y z) (vl tb n ar) lf rt lw j) on ys zs m x c f).2.2 = true then k183 h' else k202 h') ∧ h' 91 0 = (((xL (fun x y z => kpB sg mn se (gv x y z) (vl tb n ar) lf rt lw j) on ys zs m x c f).1 : Nat) : Int) ∧ h' 91 1 = (xL (fun x y z => kpB sg mn se (gv x y z) (vl tb n ar) lf rt lw j) on ys zs m x c f).2.1 ∧ ((xL (fun x y z => kpB sg mn se (gv x y z) (vl tb n ar) lf rt lw j) on ys zs m x c f).2.2 = true → RQ h' n ar tb sg mn se lf rt lw j xs ys zs) ∧ ∀ c i, c < 91 ∨ 93 < c → h' c i = h c i := by
  have hn7 := hw.1.2
  intro m
  induction m with
  | zero =>
    intro x N h c f hx hN hc1 hc h0 h1
    obtain ⟨N, rfl⟩ : ∃ M, N = M + 1 := ⟨N - 1, by omega⟩
    refine ⟨h, ?_, h0, h1, fun q => absurd (show false = true from q) (by decide), fun _ _ _ => rfl⟩
    rw [LX5_tryLaw_78, if_neg (by omega)]
    rfl
  | succ m ih =>
    intro x N h c f hx hN hc1 hc h0 h1
    obtain ⟨N, rfl⟩ : ∃ M, N = M + 1 := ⟨N - 1, by omega⟩
    rw [LX5_tryLaw_78, if_pos (by omega), zjn_eq, xL_s]
    obtain ⟨h2, y1, y2, y3, y4, y5⟩ := ty_c (F := F) (on := on) hF hk hA hL hw hP hf hj hxs hys hzs (show x < xs by omega) (k196 := fun (x196_9 : Int) (h : HF) => zlet (wr (x196_9 + 1)) fun x5 => LX5_tryLaw_78 F 91 A L (j : Int) (bi on) (xs : Int) (ys : Int) (zs : Int) k202 k183 N x5 h) (k183 := k183) ys 0 F h c f (by omega) (by omega) (by omega) hc h0 h1
    have le := yL_le (kp := fun x y z => kpB sg mn se (gv x y z) (vl tb n ar) lf rt lw j) (on := on) (x := x) (zs := zs) (by omega) ys 0 c f
    by_cases q : (yL (fun x y z => kpB sg mn se (gv x y z) (vl tb n ar) lf rt lw j) on x zs ys 0 c f).2.2 = true
    · rw [if_pos q] at y1
      rw [if_pos q]
      exact ⟨h2, by rw [if_pos q]; exact y1, y2, y3, y4, y5⟩
    · rw [if_neg q] at y1
      rw [if_neg q]
      obtain ⟨h', z1, z2, z3, z4, z5⟩ := ih (x + 1) N h2 _ _ (by omega) (by omega) (by omega) (CLx_keep hA hL (fun c i q => y5 _ _ q) hc) y2 y3
      refine ⟨h', ?_, z2, z3, z4, fun c i q => by rw [z5 c i q, y5 c i q]⟩
      rw [show (0 : Int) = ((0 : Nat) : Int) from rfl]
      refine y1.trans ?_
      rw [zlet_eq, wr_s (by omega)]
      exact z1
end TL
