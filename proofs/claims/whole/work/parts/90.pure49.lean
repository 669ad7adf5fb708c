/-! joining: the class; every partition stands in the rows -/
def allL : Nat → List (List Nat)
  | 0 => [[]]
  | n + 1 => (allL n).flatMap (fun l => (List.range (n + 1)).map (fun v => l ++ [v]))
set_option maxRecDepth 100000 in
theorem sq_allL : ∀ n, n < 8 → 1 ≤ n → sq (nxM n) 5040 (List.replicate n 0) = allL n := by decide +kernel
theorem all_mem : ∀ (n : Nat) (x : List Nat), x.length = n → BD x → x ∈ allL n
  | 0, x, h, _ => by
    have : x = [] := List.eq_nil_of_length_eq_zero h
    rw [this]; simp [allL]
  | n + 1, x, h, hB => by
    have hne : x ≠ [] := fun e => by rw [e] at h; simp at h
    have hd : x.dropLast ++ [x.getLast hne] = x := List.dropLast_concat_getLast hne
    have hl : x.dropLast.length = n := by rw [List.length_dropLast]; omega
    have hlast : x.getLast hne ≤ n := by
      have := hB n
      rw [List.getD_eq_getElem?_getD, List.getElem?_eq_getElem (show n < x.length by omega)] at this
      rw [List.getLast_eq_getElem]
      have e : x.length - 1 = n := by omega
      simp only [e]
      exact this
    have hB' : BD x.dropLast := fun i => by
      by_cases q : i < n
      · have := hB i
        rw [← hd, List.getD_eq_getElem?_getD, List.getElem?_append_left (by omega)] at this
        rw [List.getD_eq_getElem?_getD]; exact this
      · rw [gd_out (by omega)]; exact Nat.zero_le _
    simp only [allL]
    rw [List.mem_flatMap]
    exact ⟨x.dropLast, all_mem n x.dropLast hl hB', List.mem_map.mpr ⟨x.getLast hne, List.mem_range.mpr (by omega), hd⟩⟩
theorem cgL_mem {tb : Nat → Nat → Int} {n : Nat} {ar : List Nat} {x : List Nat} (hn : 1 ≤ n ∧ n ≤ 7) (hx : PLn n x) (ha : agB tb n ar x = true) : x ∈ cgL tb n ar := by
  rw [← cgL_M hn, List.mem_filter, sq_allL n (by omega) hn.1]
  exact ⟨all_mem n x hx.1 hx.2.1, by rw [hx.2.2, ha]; rfl⟩
theorem zmin_N {a b : Nat} : zmin (a : Int) (b : Int) = ((min a b : Nat) : Int) := by
  unfold zmin
  rcases Nat.le_total a b with q | q
  · rw [Nat.min_eq_left q]; split <;> omega
  · rw [Nat.min_eq_right q]; split <;> omega
theorem zmax_N {a b : Nat} : zmax (a : Int) (b : Int) = ((max a b : Nat) : Int) := by
  unfold zmax
  rcases Nat.le_total a b with q | q
  · rw [Nat.max_eq_right q]; split <;> omega
  · rw [Nat.max_eq_left q]; split <;> omega
theorem clI_ne (pr : Nat × Nat) : ¬ clI (some pr) = -1 := by show ¬ ((7 * pr.1 + pr.2 : Nat) : Int) = -1; omega
theorem pr_dv {v w : Nat} (hv : v < 7) (hw : w < 7) : wdiv ((7 * v + w : Nat) : Int) ((7 : Nat) : Int) = (v : Int) ∧ wrem ((7 * v + w : Nat) : Int) ((7 : Nat) : Int) = (w : Int) := by
  rw [wdiv_N (by omega), wrem_N (by omega), show (7 * v + w) / 7 = v by omega, show (7 * v + w) % 7 = w by omega]
  exact ⟨rfl, rfl⟩
section JC
variable {F A n : Nat} {ar : List Nat} {tb : Nat → Nat → Int} {x : List Nat}
theorem wt96 {h : HF} {i : Nat} {v : Int} {f : HF → RO} (hi : i < 7) : zwr h (94 + 2) (i : Int) v f = f (stp h 96 i v) := by
  have k6 : kl (94 + 2) = 7 := by decide +kernel
  rw [zwr_ok (a := 94 + 2) ⟨by omega, by rw [k6]; omega⟩, Int.toNat_natCast]
theorem join_L (hA9 : 117 ≤ A) (hl : x.length = n) (hn : n ≤ 7) {p q : Nat} {k : HF → RO} : ∀ (m e N : Nat) (h : HF), e + m = n → m + 1 ≤ N → h 94 4 = (A : Int) → h A 0 = (n : Int) → (∀ i, i < e → h 96 i = (((jnL x p q).getD i 0 : Nat) : Int)) → (∀ i, e ≤ i → i < n → h 96 i = ((x.getD i 0 : Nat) : Int)) → ∃ h', LX2_join_36 F 94 ((min (x.getD p 0) (x.getD q 0) : Nat) : Int) ((max (x.getD p 0) (x.getD q 0) : Nat) : Int) k N (e : Int) h = k h' ∧ LN h' 96 (jnL x p q) ∧ ∀ c i, c ≠ 96 → h' c i = h c i := by
  have k6 : kl (94 + 2) = 7 := by decide +kernel
  intro m
  induction m with
  | zero =>
    intro e N h he hN hA h0 h1 h2
    obtain ⟨N, rfl⟩ : ∃ M, N = M + 1 := ⟨N - 1, by omega⟩
    rw [LX2_join_36, zgd_at hA]
    simp only [zgf]
    rw [h0, if_neg (by omega)]
    exact ⟨h, rfl, fun i hi => h1 i (by rw [jn_len] at hi; omega), fun _ _ _ => rfl⟩
  | succ m ih =>
    intro e N h he hN hA h0 h1 h2
    obtain ⟨N, rfl⟩ : ∃ M, N = M + 1 := ⟨N - 1, by omega⟩
    have jg := jn_get (p := p) (q := q) (show e < x.length by omega)
    rw [LX2_join_36, zgd_at hA]
    simp only [zgf]
    rw [h0, if_pos (by omega), zrd_ok (a := 94 + 2) ⟨by omega, by rw [k6]; omega⟩, Int.toNat_natCast, show h (94 + 2) e = _ from h2 e (Nat.le_refl _) (by omega)]
    simp only [zjn_eq, zlet_eq]
    rw [wr_s (by omega)]
    by_cases w : x.getD e 0 = max (x.getD p 0) (x.getD q 0)
    · rw [if_pos (by omega), wt96 (by omega)]
      rw [if_pos w] at jg
      obtain ⟨h', x1, x2, x3⟩ := ih (e + 1) N (stp h 96 e ((min (x.getD p 0) (x.getD q 0) : Nat) : Int)) (by omega) (by omega) (by rw [stp_ne (by omega)]; exact hA) (by rw [stp_ne (by omega)]; exact h0) (fun i hi => by
        by_cases z : i = e
        · subst z; rw [stp_eq, jg]
        · rw [stp_ne (by omega)]; exact h1 i (by omega)) (fun i hi hi2 => by rw [stp_ne (by omega)]; exact h2 i (by omega) hi2)
      exact ⟨h', x1, x2, fun c i hc => by rw [x3 c i hc, stp_ne (Or.inl hc)]⟩
    · rw [if_neg (by omega)]
      rw [if_neg w] at jg
      exact ih (e + 1) N h (by omega) (by omega) hA h0 (fun i hi => by
        by_cases z : i = e
        · subst z; rw [h2 i (Nat.le_refl _) (by omega), jg]
        · exact h1 i (by omega)) (fun i hi hi2 => h2 i (by omega) hi2)
theorem join_eq {h : HF} (hF : 9 ≤ F) (hA9 : 117 ≤ A) (hl : x.length = n) (hn : n ≤ 7) {p q : Nat} (hp : p < n) (hq : q < n) (hA : h 94 4 = (A : Int)) (h0 : h A 0 = (n : Int)) (hL : LN h 96 x) : ∃ h', fX2_join F 94 (p : Int) (q : Int) h = some (0, h') ∧ LN h' 96 (jnL x p q) ∧ ∀ c i, c ≠ 96 → h' c i = h c i := by
  obtain ⟨h', x1, x2, x3⟩ := join_L (F := F) (p := p) (q := q) (k := fun h => some (0, h)) hA9 hl hn n 0 F h (by omega) (by omega) hA h0 (fun i hi => absurd hi (by omega)) (fun i _ hi => hL i (by omega))
  refine ⟨h', ?_, x2, x3⟩
  unfold fX2_join
  have rp := fun (f : Int → RO) => rd96 (f := f) hL (by omega) (show p < x.length by omega)
  have rq := fun (f : Int → RO) => rd96 (f := f) hL (by omega) (show q < x.length by omega)
  simp only [zjn_eq, zlet_eq, rp, rq, zmin_N, zmax_N]
  exact x1
/-- from a partition on, classes are joined where they clash, until none does -/
theorem joining_L (hF : 9 ≤ F) (hA9 : 117 ≤ A) (hk : kt A = 0 + 3) (hw : WF n ar tb) {k : HF → RO} : ∀ (c i N : Nat) (x : List Nat) (h : HF), PLn n x → bc (lds n x) n = c → i + c ≤ 7 → 8 - i + 1 ≤ N → h 94 4 = (A : Int) → RepC h A n ar tb → LN h 96 x → ∃ (h' : HF) (y : List Nat), LX2_joining_34 F 94 k k N (i : Int) h = k h' ∧ LN h' 96 y ∧ PLn n y ∧ agB tb n ar y = true ∧ crs n x y ∧ (∀ z, PLn n z → cgP tb n ar z → crs n x z → crs n y z) ∧ ∀ c i, c ≠ 96 → h' c i = h c i := by
  have hn := hw.1
  intro c
  induction c using Nat.strongRecOn with
  | ind c ih =>
    intro i N x h hx hc hi hN hA hr hL
    obtain ⟨N, rfl⟩ : ∃ M, N = M + 1 := ⟨N - 1, by omega⟩
    have hp := lds_pos hx hn.1
    rw [LX2_joining_34, if_pos (by omega), clash_eq hF hA hk hw hr hL hx.1 hx.2.1, zbd_some]
    cases q : clo1 tb n ar x 1 (n - 1) with
    | none =>
      rw [if_pos (show clI none = -1 from rfl)]
      refine ⟨h, x, rfl, hL, hx, (clash_ag hw hx.2.1 hx.2.2).mp q, fun u hu => ?_, fun z _ _ hz => hz, fun _ _ _ => rfl⟩
      exact ln_idem hx.2.2 hu
    | some pr =>
      obtain ⟨p1, p2, p3, p4⟩ := clash_pair hw hx q
      obtain ⟨g, j1, j2, j3⟩ := join_eq (F := F) hF hA9 hx.1 hn.2 p1 p2 hA hr.1 hL
      have hj := jn_PLn hx p1 p2
      have hless := jn_less hx p1 p2 p3
      obtain ⟨h', y, x1, x2, x3, x4, x5, x6, x7⟩ := ih (bc (lds n (jnL x pr.1 pr.2)) n) (by omega) (i + 1) N (jnL x pr.1 pr.2) g hj rfl (by omega) (by omega) (by rw [j3 _ _ (by decide)]; exact hA) (RepC_keep (fun i k hi => j3 _ _ (by omega)) hr) j2
      refine ⟨h', y, ?_, x2, x3, x4, ?_, fun z hz hcg hcz => x6 z hz hcg (crs_jn hx p1 p2 hcz (p4 z hz hcg hcz)), fun c i hc => by rw [x7 c i hc, j3 c i hc]⟩
      · rw [if_neg (clI_ne pr), zdv_ok (by decide), zdv_ok (by decide), show wdiv (clI (some pr)) 7 = (pr.1 : Int) from (pr_dv (by omega) (by omega)).1, show wrem (clI (some pr)) 7 = (pr.2 : Int) from (pr_dv (by omega) (by omega)).2, j1, zbd_some, zlet_eq, wr_s (by omega)]
        exact x1
      · intro u hu
        have bu := hx.2.1 u
        have a1 := x5 u hu
        have a2 := x5 (x.getD u 0) (by omega)
        have a3 := jn_crs hx p1 p2 (fun v hv => ln_idem hx.2.2 hv) hx u hu
        rw [← a1, ← a2, a3]
end JC
