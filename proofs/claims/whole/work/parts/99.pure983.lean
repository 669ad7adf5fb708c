/-! laws that hold: what they depend on -/
section HL
variable {nl ns T n : Nat} {ar : List Nat} {sg mn se lf rt lw : Nat → Nat}
theorem vl_same {tb : Nat → Nat → Int} {o a b a' b' : Nat} (h1 : 1 ≤ ar.getD o 0 → a' = a) (h2 : 2 ≤ ar.getD o 0 → b' = b) : vl tb n ar o a' b' = vl tb n ar o a b := by
  unfold vl; rw [ix_same h1 h2]
theorem eT_map {g g' : Nat → Nat} {V V' : Nat → Nat → Nat → Nat} {φ : Nat → Nat} {lo hi : Nat} (hs : Sub sg mn se lo hi) (hg : ∀ t, lo ≤ t → t < hi → sg t < 3 → g' (sg t) = φ (g (sg t))) (hV : ∀ t, lo ≤ t → t < hi → 3 ≤ sg t → V' (sg t - 3) (if 0 < mn t then φ (eT sg mn se g V (t + 1)) else 0) (if 1 < mn t then φ (eT sg mn se g V (se t)) else 0) = φ (V (sg t - 3) (eA sg mn se g V t) (eB sg mn se g V t))) : ∀ (m t : Nat), lo ≤ t → t < hi → hi - t ≤ m → eT sg mn se g' V' t = φ (eT sg mn se g V t) := by
  intro m
  induction m with
  | zero => intro t _ h1 h2; omega
  | succ m ih =>
    intro t h0 h1 h2
    obtain ⟨D, e, d1, d2, d3⟩ := hs t h0 h1
    rw [eT_eq d1 d3, eT_eq d1 d3]
    by_cases q : sg t < 3
    · rw [if_pos q, if_pos q]; exact hg t h0 h1 q
    · rw [if_neg q, if_neg q, ← hV t h0 h1 (by omega)]
      obtain ⟨D, rfl⟩ : ∃ x, D = x + 1 := by
        cases D with
        | zero => exact d3.elim
        | succ x => exact ⟨x, rfl⟩
      unfold eA eB
      rcases d3 with ⟨m0, _⟩ | ⟨_, m1, a2⟩ | ⟨_, m2, a2, a4⟩
      · rw [if_neg (show ¬ 0 < mn t by omega), if_neg (show ¬ 1 < mn t by omega), if_neg (show ¬ 0 < mn t by omega), if_neg (show ¬ 1 < mn t by omega)]
      · have := TT_lt _ _ _ a2
        rw [if_pos (show 0 < mn t by omega), if_neg (show ¬ 1 < mn t by omega), if_pos (show 0 < mn t by omega), if_neg (show ¬ 1 < mn t by omega), ih (t + 1) (by omega) (by omega) (by omega)]
      · have := TT_lt _ _ _ a2
        have := TT_lt _ _ _ a4
        rw [if_pos (show 0 < mn t by omega), if_pos (show 1 < mn t by omega), if_pos (show 0 < mn t by omega), if_pos (show 1 < mn t by omega), ih (t + 1) (by omega) (by omega) (by omega), ih (se t) (by omega) (by omega) (by omega)]
theorem lf_mono (hP : LLP nl ns T sg mn se lf rt lw) : ∀ (m a : Nat), a + m ≤ ns → lf a ≤ lf (a + m) := by
  intro m
  induction m with
  | zero => intro a _; exact Nat.le_refl _
  | succ m ih =>
    intro a h
    have h1 := ih a (by omega)
    have h2 := (LLP_rows hP).2.2 (a + m) (by omega)
    rw [show a + (m + 1) = a + m + 1 by omega]
    omega
theorem alB_congr {p q : Nat → Bool} : ∀ (m i : Nat), (∀ j, i ≤ j → j < i + m → p j = q j) → alB p i m = alB q i m := by
  intro m
  induction m with
  | zero => intro i _; rfl
  | succ m ih => intro i h; rw [alB_s, alB_s, h i (Nat.le_refl _) (by omega), ih (i + 1) (fun j a b => h j (by omega) (by omega))]
theorem kp_map (hP : LLP nl ns T sg mn se lf rt lw) {g g' : Nat → Nat} {V V' : Nat → Nat → Nat → Nat} {φ : Nat → Nat} {j : Nat} (hj : j < nl) (hg : ∀ t, lf (lw j) ≤ t → t < lf (lw (j + 1)) → sg t < 3 → g' (sg t) = φ (g (sg t))) (hV : ∀ t, lf (lw j) ≤ t → t < lf (lw (j + 1)) → 3 ≤ sg t → V' (sg t - 3) (if 0 < mn t then φ (eT sg mn se g V (t + 1)) else 0) (if 1 < mn t then φ (eT sg mn se g V (se t)) else 0) = φ (V (sg t - 3) (eA sg mn se g V t) (eB sg mn se g V t))) (hφ : ∀ k, lw j ≤ k → k < lw (j + 1) → φ (eT sg mn se g V (lf k)) = φ (eT sg mn se g V (rt k)) → eT sg mn se g V (lf k) = eT sg mn se g V (rt k)) : kpB sg mn se g' V' lf rt lw j = kpB sg mn se g V lf rt lw j := by
  obtain ⟨r1, r2, r3⟩ := LLP_rows hP
  have l1 := hP.2.2.2.2 j hj
  have l2 := r2 (nl - (j + 1)) (j + 1) (by omega)
  have one : ∀ k, lw j ≤ k → k < lw (j + 1) → esB sg mn se g' V' lf rt k = esB sg mn se g V lf rt k := by
    intro k a b
    obtain ⟨s1, s2, s3, s4⟩ := r3 k (by omega)
    have m1 := lf_mono hP (k - lw j) (lw j) (by omega)
    have m2 := lf_mono hP (lw (j + 1) - (k + 1)) (k + 1) (by omega)
    rw [show lw j + (k - lw j) = k by omega] at m1
    rw [show k + 1 + (lw (j + 1) - (k + 1)) = lw (j + 1) by omega] at m2
    have E := fun t (h0 : lf k ≤ t) (h1 : t < lf (k + 1)) => eT_map (g' := g') (V' := V') (φ := φ) s4 (fun t x y z => hg t (by omega) (by omega) z) (fun t x y z => hV t (by omega) (by omega) z) (lf (k + 1) - t) t h0 h1 (Nat.le_refl _)
    unfold esB
    rw [E (lf k) (Nat.le_refl _) (by omega), E (rt k) (by omega) (by omega)]
    by_cases q : eT sg mn se g V (lf k) = eT sg mn se g V (rt k)
    · rw [decide_eq_true q, decide_eq_true (by rw [q])]
    · rw [decide_eq_false q, decide_eq_false (fun z => q (hφ k a b z))]
  unfold kpB
  rw [alB_congr _ _ (fun k a b => one k (by omega) (by omega)), one (lw (j + 1) - 1) (by omega) (by omega)]
/-- all laws hold, whatever stands for the variables -/
def HLd (n nl : Nat) (sg mn se lf rt lw : Nat → Nat) (V : Nat → Nat → Nat → Nat) : Prop := ∀ j, j < nl → ∀ g : Nat → Nat, (∀ v, v < 3 → g v < n) → kpB sg mn se g V lf rt lw j = true
theorem zL_all {kp : Nat → Nat → Nat → Bool} {x y : Nat} : ∀ (m z c : Nat) (f : Int), (zL kp true x y m z c f).2.2 = false ↔ ∀ z', z ≤ z' → z' < z + m → kp x y z' = true := by
  intro m
  induction m with
  | zero => intro z c f; exact ⟨fun _ z' a b => by omega, fun _ => rfl⟩
  | succ m ih =>
    intro z c f
    rw [zL_s]
    by_cases q : kp x y z = true
    · rw [if_pos q, ih]
      exact ⟨fun h z' a b => by
        by_cases w : z' = z
        · rw [w]; exact q
        · exact h z' (by omega) (by omega), fun h z' a b => h z' (by omega) (by omega)⟩
    · rw [if_neg q, if_pos rfl]
      exact ⟨fun h => absurd h (by simp), fun h => absurd (h z (Nat.le_refl _) (by omega)) q⟩
theorem yL_all {kp : Nat → Nat → Nat → Bool} {x zs : Nat} : ∀ (m y c : Nat) (f : Int), (yL kp true x zs m y c f).2.2 = false ↔ ∀ y', y ≤ y' → y' < y + m → ∀ z, z < zs → kp x y' z = true := by
  intro m
  induction m with
  | zero => intro z c f; exact ⟨fun _ z' a b => by omega, fun _ => rfl⟩
  | succ m ih =>
    intro y c f
    rw [yL_s]
    by_cases q : (zL kp true x y zs 0 c f).2.2 = true
    · rw [if_pos q]
      refine ⟨fun h => absurd (q.symm.trans h) (by decide), fun h => ?_⟩
      have := (zL_all (kp := kp) (x := x) (y := y) zs 0 c f).mpr (fun z' _ b => h y (Nat.le_refl _) (by omega) z' (by omega))
      exact absurd (q.symm.trans this) (by decide)
    · rw [if_neg q, ih]
      have q' := (zL_all (kp := kp) (x := x) (y := y) zs 0 c f).mp (by simpa using q)
      exact ⟨fun h y' a b => by
        by_cases w : y' = y
        · rw [w]; exact fun z hz => q' z (by omega) (by omega)
        · exact h y' (by omega) (by omega), fun h y' a b => h y' (by omega) (by omega)⟩
theorem xL_all {kp : Nat → Nat → Nat → Bool} {ys zs : Nat} : ∀ (m x c : Nat) (f : Int), (xL kp true ys zs m x c f).2.2 = false ↔ ∀ x', x ≤ x' → x' < x + m → ∀ y, y < ys → ∀ z, z < zs → kp x' y z = true := by
  intro m
  induction m with
  | zero => intro z c f; exact ⟨fun _ z' a b => by omega, fun _ => rfl⟩
  | succ m ih =>
    intro x c f
    rw [xL_s]
    by_cases q : (yL kp true x zs ys 0 c f).2.2 = true
    · rw [if_pos q]
      refine ⟨fun h => absurd (q.symm.trans h) (by decide), fun h => ?_⟩
      have := (yL_all (kp := kp) (x := x) (zs := zs) ys 0 c f).mpr (fun z' _ b => h x (Nat.le_refl _) (by omega) z' (by omega))
      exact absurd (q.symm.trans this) (by decide)
    · rw [if_neg q, ih]
      have q' := (yL_all (kp := kp) (x := x) (zs := zs) ys 0 c f).mp (by simpa using q)
      exact ⟨fun h y' a b => by
        by_cases w : y' = x
        · rw [w]; exact fun y hy => q' y (by omega) (by omega)
        · exact h y' (by omega) (by omega), fun h y' a b => h y' (by omega) (by omega)⟩
variable {tb : Nat → Nat → Int}
theorem tr_all {j : Nat} : ¬ 0 < (trJ n ar tb sg mn se lf rt lw j true).1 ↔ ∀ x y z, x < nvr n sg lf lw j 0 → y < nvr n sg lf lw j 1 → z < nvr n sg lf lw j 2 → kpB sg mn se (gv x y z) (vl tb n ar) lf rt lw j = true := by
  have A : ¬ 0 < (trJ n ar tb sg mn se lf rt lw j true).1 ↔ (trJ n ar tb sg mn se lf rt lw j true).2.2 = false := by
    constructor
    · intro h
      cases e : (trJ n ar tb sg mn se lf rt lw j true).2.2 with
      | false => rfl
      | true =>
        exfalso
        refine h ?_
        have up : ∀ (kp : Nat → Nat → Nat → Bool) (m x : Nat) (ys zs c : Nat) (f : Int), (xL kp true ys zs m x c f).2.2 = true → 0 < (xL kp true ys zs m x c f).1 := by
          intro kp m
          have upz : ∀ (m x y z c : Nat) (f : Int), (zL kp true x y m z c f).2.2 = true → 0 < (zL kp true x y m z c f).1 := by
            intro m
            induction m with
            | zero => intro x y z c f h; exact absurd h (by simp [zL])
            | succ m ih =>
              intro x y z c f h
              rw [zL_s] at h ⊢
              by_cases q : kp x y z = true
              · rw [if_pos q] at h ⊢; exact ih _ _ _ _ _ h
              · rw [if_neg q, if_pos rfl]; exact Nat.succ_pos _
          have upy : ∀ (m x zs y c : Nat) (f : Int), (yL kp true x zs m y c f).2.2 = true → 0 < (yL kp true x zs m y c f).1 := by
            intro m
            induction m with
            | zero => intro x y z c f h; exact absurd h (by simp [yL])
            | succ m ih =>
              intro x zs y c f h
              rw [yL_s] at h ⊢
              by_cases q : (zL kp true x y zs 0 c f).2.2 = true
              · rw [if_pos q]; exact upz _ _ _ _ _ _ q
              · rw [if_neg q] at h ⊢; exact ih _ _ _ _ _ h
          induction m with
          | zero => intro x y z c f h; exact absurd h (by simp [xL])
          | succ m ih =>
            intro x ys zs c f h
            rw [xL_s] at h ⊢
            by_cases q : (yL kp true x zs ys 0 c f).2.2 = true
            · rw [if_pos q]; exact upy _ _ _ _ _ _ q
            · rw [if_neg q] at h ⊢; exact ih _ _ _ _ _ h
        exact up _ _ _ _ _ _ _ e
    · intro h w
      exact absurd ((tr_on w).symm.trans h) (by decide)
  rw [A]
  unfold trJ
  rw [xL_all]
  exact ⟨fun h x y z a b c => h x (by omega) (by omega) y b z c, fun h x _ b y c z d => h x y z (by omega) c d⟩
theorem fbI_none : ∀ (m j : Nat), fbI n ar tb sg mn se lf rt lw m j = none ↔ ∀ k, j ≤ k → k < j + m → ¬ 0 < (trJ n ar tb sg mn se lf rt lw k true).1 := by
  intro m
  induction m with
  | zero => intro j; exact ⟨fun _ k a b => by omega, fun _ => rfl⟩
  | succ m ih =>
    intro j
    rw [fbI]
    by_cases q : 0 < (trJ n ar tb sg mn se lf rt lw j true).1
    · rw [if_pos q]
      exact ⟨fun h => absurd h (by simp), fun h => absurd q (h j (Nat.le_refl _) (by omega))⟩
    · rw [if_neg q, ih]
      exact ⟨fun h k a b => by
        by_cases w : k = j
        · rw [w]; exact q
        · exact h k (by omega) (by omega), fun h k a b => h k (by omega) (by omega)⟩
theorem exB_mem {p : Nat → Bool} : ∀ (m i : Nat), exB p i m = true ↔ ∃ j, i ≤ j ∧ j < i + m ∧ p j = true := by
  intro m
  induction m with
  | zero => intro i; exact ⟨fun h => absurd h (by simp [exB]), fun ⟨j, a, b, _⟩ => by omega⟩
  | succ m ih =>
    intro i
    rw [exB]
    constructor
    · intro h
      rcases Bool.or_eq_true_iff.mp h with w | w
      · exact ⟨i, Nat.le_refl _, by omega, w⟩
      · obtain ⟨j, a, b, c⟩ := (ih (i + 1)).mp w
        exact ⟨j, by omega, by omega, c⟩
    · rintro ⟨j, a, b, c⟩
      by_cases w : j = i
      · rw [← w, c, Bool.true_or]
      · rw [(ih (i + 1)).mpr ⟨j, by omega, by omega, c⟩, Bool.or_true]
theorem fb_iff (hw : WF n ar tb) (hP : LLP nl ns T sg mn se lf rt lw) : fbI n ar tb sg mn se lf rt lw nl 0 = none ↔ HLd n nl sg mn se lf rt lw (vl tb n ar) := by
  have hn := hw.1.1
  rw [fbI_none]
  constructor
  · intro h j hj g hg
    have h1 := tr_all.mp (h j (Nat.zero_le _) (by omega))
    have nl1 := fun v => nvr_le (n := n) (sg := sg) (lf := lf) (lw := lw) (j := j) (v := v) hn
    obtain ⟨f, hf⟩ : ∃ f : Nat → Nat, f = fun v => if nvr n sg lf lw j v = n then g v else 0 := ⟨_, rfl⟩
    have fl : ∀ v, v < 3 → f v < nvr n sg lf lw j v := fun v hv => by
      rw [hf]
      by_cases q : nvr n sg lf lw j v = n
      · show (if _ then _ else _) < _
        rw [if_pos q, q]; exact hg v hv
      · show (if _ then _ else _) < _
        rw [if_neg q]; unfold nvr; split <;> omega
    have h2 := h1 (f 0) (f 1) (f 2) (fl 0 (by omega)) (fl 1 (by omega)) (fl 2 (by omega))
    rw [← h2]
    refine kp_map (φ := id) hP hj (fun t a b c => ?_) (fun t a b c => rfl) (fun _ _ _ z => z)
    have oc : nvr n sg lf lw j (sg t) = n := by
      unfold nvr
      rw [if_pos ((exB_mem _ _).mpr ⟨t, a, by omega, decide_eq_true rfl⟩)]
    have : gv (f 0) (f 1) (f 2) (sg t) = f (sg t) := by
      unfold gv
      obtain e | e | e : sg t = 0 ∨ sg t = 1 ∨ sg t = 2 := by omega
      · rw [e]; rfl
      · rw [e]; rfl
      · rw [e]; rfl
    show g (sg t) = gv (f 0) (f 1) (f 2) (sg t)
    rw [this, hf]
    show _ = if _ then _ else _
    rw [if_pos oc]
  · intro h k _ hk
    refine tr_all.mpr fun x y z a b c => h k (by omega) _ ?_
    have nl1 := fun v => nvr_le (n := n) (sg := sg) (lf := lf) (lw := lw) (j := k) (v := v) hn
    have n0 := nl1 0
    have n1 := nl1 1
    have n2 := nl1 2
    exact gv_lt (by omega) (by omega) (by omega)
theorem Sub_at (hP : LLP nl ns T sg mn se lf rt lw) {j : Nat} (hj : j < nl) : ∀ t, lf (lw j) ≤ t → t < lf (lw (j + 1)) → ∃ D e, D ≤ 8 ∧ e ≤ T ∧ TT sg mn se D t e := by
  obtain ⟨r1, r2, r3⟩ := LLP_rows hP
  have l2 := r2 (nl - (j + 1)) (j + 1) (by omega)
  have l1 := hP.2.2.2.2 j hj
  intro t h0 h1
  have go : ∀ (m k : Nat), k + m = lw (j + 1) → lf k ≤ t → ∃ D e, D ≤ 8 ∧ e ≤ T ∧ TT sg mn se D t e := by
    intro m
    induction m with
    | zero => intro k hk h; rw [show k = lw (j + 1) by omega] at h; omega
    | succ m ih =>
      intro k hk h
      obtain ⟨s1, s2, s3, s4⟩ := r3 k (by omega)
      by_cases q : t < lf (k + 1)
      · obtain ⟨D, e, d1, d2, d3⟩ := s4 t h q
        exact ⟨D, e, d1, by omega, d3⟩
      · exact ih (k + 1) (by omega) (by omega)
  exact go (lw (j + 1) - lw j) (lw j) (by omega) h0
/-- a table that agrees as far as the law looked breaks it too -/
theorem RQ_AG {h : HF} {tb' : Nat → Nat → Int} {j : Nat} (hw : WF n ar tb) (hP : LLP nl ns T sg mn se lf rt lw) (hf : fitP ar sg mn T) (hj : j < nl) (hR : RQ h n ar tb sg mn se lf rt lw j (nvr n sg lf lw j 0) (nvr n sg lf lw j 1) (nvr n sg lf lw j 2)) (hA : AG n ar tb tb' (h 91 2)) : ¬ HLd n nl sg mn se lf rt lw (vl tb' n ar) := by
  obtain ⟨R, x, y, z, e1, e2, e3, e4, e5, e6, e7, e8⟩ := hR
  have hn := hw.1.1
  have nl1 := fun v => nvr_le (n := n) (sg := sg) (lf := lf) (lw := lw) (j := j) (v := v) hn
  have n0 := nl1 0
  have n1 := nl1 1
  have n2 := nl1 2
  have hg : ∀ v, v < 3 → gv x y z v < n := gv_lt (by omega) (by omega) (by omega)
  intro hH
  have := hH j hj (gv x y z) hg
  rw [kp_map (φ := id) (V := vl tb n ar) (g := gv x y z) hP hj (fun t a b c => rfl) (fun t a b c => ?_) (fun _ _ _ z => z), e7] at this
  · exact absurd this (by decide)
  · obtain ⟨D, e, d1, d2, d3⟩ := Sub_at hP hj t a b
    obtain ⟨v1, v2, v3⟩ := eT_lt hw hf hg d1 d3 d2
    have ho : sg t - 3 < ar.length := by
      have := TT_lt _ _ _ d3
      rcases hf t (by omega) with w | w
      · omega
      · exact w.1
    exact AG_vl hw hA ho v2 v3 (by rw [e1]; exact e8 t a b c)
/-- laws do not see the numbering -/
theorem HL_img {p : List Nat} (hw : WF n ar tb) (hp : IsP n p) (hP : LLP nl ns T sg mn se lf rt lw) (hf : fitP ar sg mn T) (hH : HLd n nl sg mn se lf rt lw (vl tb n ar)) : HLd n nl sg mn se lf rt lw (vl (tbL n ar (lnL tb n ar p)) n ar) := by
  have hn := hw.1
  intro j hj g hg
  have hg0 : ∀ v, v < 3 → p.getD (g v) 0 < n := fun v hv => hp.1.2 _ (hg v hv)
  have h1 := hH j hj (fun v => p.getD (g v) 0) hg0
  rw [← h1]
  refine kp_map (φ := fun v => iv p v) hP hj (fun t a b c => ?_) (fun t a b c => ?_) (fun k a b e => ?_)
  · exact (iv_get hn.2 hp (hg _ c)).symm
  · obtain ⟨D, e, d1, d2, d3⟩ := Sub_at hP hj t a b
    obtain ⟨v1, v2, v3⟩ := eT_lt hw hf hg0 d1 d3 d2
    have te := TT_lt _ _ _ d3
    obtain ⟨ho, har⟩ : sg t - 3 < ar.length ∧ ar.getD (sg t - 3) 0 = mn t := by
      rcases hf t (by omega) with w | w
      · omega
      · exact w
    have A1 : (if 0 < mn t then iv p (eT sg mn se (fun v => p.getD (g v) 0) (vl tb n ar) (t + 1)) else 0) < n := by
      by_cases q : 0 < mn t
      · rw [if_pos q]; unfold eA at v2; rw [if_pos q] at v2; exact (iv_lt hn.2 hp v2).1
      · rw [if_neg q]; exact hn.1
    have B1 : (if 1 < mn t then iv p (eT sg mn se (fun v => p.getD (g v) 0) (vl tb n ar) (se t)) else 0) < n := by
      by_cases q : 1 < mn t
      · rw [if_pos q]; unfold eB at v3; rw [if_pos q] at v3; exact (iv_lt hn.2 hp v3).1
      · rw [if_neg q]; exact hn.1
    rw [vl_img hn.1 hw.2.2.1 ho A1 B1]
    unfold lnv
    refine congrArg (fun v => iv p v) (vl_same ?_ ?_)
    · intro q
      rw [har] at q
      unfold eA at v2 ⊢
      rw [if_pos (by omega)] at v2
      rw [if_pos (by omega), if_pos (by omega), (iv_lt hn.2 hp v2).2]
    · intro q
      rw [har] at q
      unfold eB at v3 ⊢
      rw [if_pos (by omega)] at v3
      rw [if_pos (by omega), if_pos (by omega), (iv_lt hn.2 hp v3).2]
  · obtain ⟨r1, r2, r3⟩ := LLP_rows hP
    have l2 := r2 (nl - (j + 1)) (j + 1) (by omega)
    obtain ⟨s1, s2, s3, s4⟩ := r3 k (by omega)
    obtain ⟨D, e', d1, d2, d3⟩ := s4 (lf k) (Nat.le_refl _) (by omega)
    obtain ⟨D', e'', d1', d2', d3'⟩ := s4 (rt k) (by omega) (by omega)
    have w1 := (eT_lt hw hf hg0 d1 d3 (by omega)).1
    have w2 := (eT_lt hw hf hg0 d1' d3' (by omega)).1
    rw [← (iv_lt hn.2 hp w1).2, ← (iv_lt hn.2 hp w2).2]
    exact congrArg (fun v => p.getD v 0) e
end HL
