/-! link -/
theorem cd_inj {x y : List Nat} (hx : ∀ i, x.getD i 0 < 7) (hy : ∀ i, y.getD i 0 < 7) : ∀ m, cdR x 0 0 m = cdR y 0 0 m → ∀ i, i < m → x.getD i 0 = y.getD i 0
  | 0, _, i, hi => absurd hi (by omega)
  | m + 1, e, i, hi => by
    rw [cdR_snoc, cdR_snoc, Nat.zero_add] at e
    have h1 := hx m
    have h2 := hy m
    by_cases q : i = m
    · subst q; omega
    · exact cd_inj hx hy m (by omega) i (by omega)
theorem PLn_lt {n : Nat} {x : List Nat} (hn : n ≤ 7) (hx : PLn n x) : ∀ i, x.getD i 0 < 7 := fun i => by
  by_cases z : i < n
  · have := hx.2.1 i; omega
  · rw [gd_out (by rw [hx.1]; omega)]; decide
theorem PLn_ext {n : Nat} {x y : List Nat} (hx : PLn n x) (hy : PLn n y) (h : ∀ i, i < n → x.getD i 0 = y.getD i 0) : x = y := by
  refine List.ext_getElem (by rw [hx.1, hy.1]) (fun i h1 h2 => ?_)
  have := h i (by rw [← hx.1]; exact h1)
  rw [List.getD_eq_getElem?_getD, List.getD_eq_getElem?_getD, List.getElem?_eq_getElem h1, List.getElem?_eq_getElem h2] at this
  exact this
theorem first_idx {y : List Nat} : ∀ (L : List (List Nat)), y ∈ L → ∃ j : Nat, L[j]? = some y ∧ ∀ j' : Nat, j' < j → L[j']? ≠ some y
  | [], h => absurd h (by simp)
  | l :: L, h => by
    by_cases q : l = y
    · exact ⟨0, by rw [q]; rfl, fun j' hj => absurd hj (by omega)⟩
    · obtain ⟨j, h1, h2⟩ := first_idx L ((List.mem_cons.mp h).resolve_left (fun e => q e.symm))
      refine ⟨j + 1, by simpa using h1, fun j' hj' => ?_⟩
      cases j' with
      | zero => simpa using q
      | succ j' => simpa using h2 j' (by omega)
section NB
variable {F A n : Nat} {ar : List Nat} {tb : Nat → Nat → Int} {y : List Nat}
theorem number_eq {h : HF} {j0 : Nat} (hF : 900 ≤ F) (hn : 1 ≤ n ∧ n ≤ 7) (hA : h 94 4 = (A : Int)) (h0 : h A 0 = (n : Int)) (hL : LN h 96 y) (hy : PLn n y) (hf : h 94 1 = (((cgL tb n ar).length : Nat) : Int)) (hc : ∀ j x, (cgL tb n ar)[j]? = some x → h 95 j = ((cdR x 0 0 n : Nat) : Int)) (h1 : (cgL tb n ar)[j0]? = some y) (h2 : ∀ j, j < j0 → (cgL tb n ar)[j]? ≠ some y) : fX2_number F 94 h = some ((j0 : Int), h) := by
  have k95 : kl 95 = 877 := by decide +kernel
  have k96 : kl 96 = 7 := by decide +kernel
  have hlen := cg_len (tb := tb) (n := n) (ar := ar)
  have hj0 : j0 < (cgL tb n ar).length := by
    by_cases z : j0 < (cgL tb n ar).length
    · exact z
    · rw [List.getElem?_eq_none (by omega)] at h1; exact absurd h1 (by simp)
  have L : ∀ (m k N : Nat), k + m = j0 → m + 1 ≤ N → LX2_number_17 F 94 ((cdR y 0 0 n : Nat) : Int) (fun h => some (-1, h)) (fun x h => some (x, h)) N (k : Int) h = some ((j0 : Int), h) := by
    intro m
    induction m with
    | zero =>
      intro k N hk hN
      obtain ⟨N, rfl⟩ : ∃ M, N = M + 1 := ⟨N - 1, by omega⟩
      obtain rfl : k = j0 := by omega
      rw [LX2_number_17]
      simp only [zgf]
      rw [hf, if_pos (by omega), zrd_ok (a := 94 + 1) ⟨by omega, by rw [show kl (94 + 1) = 877 from k95]; omega⟩, Int.toNat_natCast, show h (94 + 1) k = _ from hc k y h1, if_pos rfl]
    | succ m ih =>
      intro k N hk hN
      obtain ⟨N, rfl⟩ : ∃ M, N = M + 1 := ⟨N - 1, by omega⟩
      have hkl : k < (cgL tb n ar).length := by omega
      have hz := List.getElem?_eq_getElem hkl
      generalize (cgL tb n ar)[k] = z at hz
      obtain ⟨z1, z2, z3, z4⟩ := cgL_ok hn z (List.mem_of_getElem? hz)
      have hne : cdR z 0 0 n ≠ cdR y 0 0 n := fun e => h2 k (by omega) (by
        rw [hz, PLn_ext (n := n) ⟨z1, z2, z3⟩ hy (cd_inj (PLn_lt hn.2 ⟨z1, z2, z3⟩) (PLn_lt hn.2 hy) n e)])
      rw [LX2_number_17]
      simp only [zgf]
      rw [hf, if_pos (by omega), zrd_ok (a := 94 + 1) ⟨by omega, by rw [show kl (94 + 1) = 877 from k95]; omega⟩, Int.toNat_natCast, show h (94 + 1) k = _ from hc k z hz, if_neg (by omega), zlet_eq, wr_s (by omega)]
      exact ih (k + 1) N (by omega) (by omega)
  unfold fX2_number
  rw [zgd_at hA]
  simp only [zjn_eq, zgf]
  rw [h0, show fX11_encode F (94 + 2) (n : Int) h = _ from encode_eq (F := F) (by omega) k96 hL hy.1 hn.2 (fun i _ => PLn_lt hn.2 hy i), zbd_some]
  exact L j0 0 F (by omega) (by omega)
theorem rng_PLn (n : Nat) : PLn n (List.range n) := by
  have hg : ∀ i, i < n → (List.range n).getD i 0 = i := fun i hi => by rw [List.getD_eq_getElem?_getD, List.getElem?_range hi]; rfl
  have hB : BD (List.range n) := fun i => by
    by_cases w : i < n
    · rw [hg i w]; exact Nat.le_refl _
    · rw [gd_out (by rw [List.length_range]; omega)]; exact Nat.zero_le _
  exact ⟨List.length_range, hB, ln_of hB (fun a ha => by rw [hg a ha, hg a ha])⟩
theorem rng_get {i : Nat} (hi : i < n) : (List.range n).getD i 0 = i := by rw [List.getD_eq_getElem?_getD, List.getElem?_range hi]; rfl
theorem id_L (hA9 : 117 ≤ A) (hn : n ≤ 7) {u1 u2 : Int} {k : HF → RO} : ∀ (m e N : Nat) (h : HF), e + m = n → m + 1 ≤ N → h 94 4 = (A : Int) → h A 0 = (n : Int) → (∀ i, i < e → h 96 i = (i : Int)) → ∃ h', LX2_joining_2 F 94 u1 u2 k N (e : Int) h = k h' ∧ LN h' 96 (List.range n) ∧ ∀ c i, c ≠ 96 → h' c i = h c i := by
  intro m
  induction m with
  | zero =>
    intro e N h he hN hA h0 h1
    obtain ⟨N, rfl⟩ : ∃ M, N = M + 1 := ⟨N - 1, by omega⟩
    rw [LX2_joining_2, zgd_at hA]
    simp only [zgf]
    rw [h0, if_neg (by omega)]
    exact ⟨h, rfl, fun i hi => by rw [List.length_range] at hi; rw [rng_get hi]; exact h1 i (by omega), fun _ _ _ => rfl⟩
  | succ m ih =>
    intro e N h he hN hA h0 h1
    obtain ⟨N, rfl⟩ : ∃ M, N = M + 1 := ⟨N - 1, by omega⟩
    rw [LX2_joining_2, zgd_at hA]
    simp only [zgf]
    rw [h0, if_pos (by omega), wt96 (by omega), zlet_eq, wr_s (by omega)]
    obtain ⟨h', x1, x2, x3⟩ := ih (e + 1) N (stp h 96 e (e : Int)) (by omega) (by omega) (by rw [stp_ne (by omega)]; exact hA) (by rw [stp_ne (by omega)]; exact h0) (fun i hi => by
      by_cases z : i = e
      · subst z; rw [stp_eq]
      · rw [stp_ne (by omega)]; exact h1 i (by omega))
    exact ⟨h', x1, x2, fun c i hc => by rw [x3 c i hc, stp_ne (Or.inl hc)]⟩
/-- joining of the class: the least congruence that joins a and b, by its number -/
theorem joining_eq {h : HF} (hF : 900 ≤ F) (hA9 : 117 ≤ A) (hk : kt A = 0 + 3) (hw : WF n ar tb) (hr : RepC h A n ar tb) (hA : h 94 4 = (A : Int)) (hf : h 94 1 = (((cgL tb n ar).length : Nat) : Int)) (hc : ∀ j x, (cgL tb n ar)[j]? = some x → h 95 j = ((cdR x 0 0 n : Nat) : Int)) {a b : Nat} (ha : a < n) (hb : b < n) : ∃ (h' : HF) (y : List Nat) (j0 : Nat), fX2_joining F 94 (a : Int) (b : Int) h = some ((j0 : Int), h') ∧ (cgL tb n ar)[j0]? = some y ∧ (∀ j, j < j0 → (cgL tb n ar)[j]? ≠ some y) ∧ PLn n y ∧ y.getD a 0 = y.getD b 0 ∧ (∀ z, PLn n z → cgP tb n ar z → z.getD a 0 = z.getD b 0 → crs n y z) ∧ ∀ c i, c ≠ 96 → h' c i = h c i := by
  have hn := hw.1
  obtain ⟨g1, a1, a2, a3⟩ := id_L (F := F) (A := A) (n := n) (u1 := (a : Int)) (u2 := (b : Int)) (k := fun h => zbd (fX2_join F 94 (a : Int) (b : Int) h) fun _ h => LX2_joining_34 F 94 (fun h => zbd (fX2_number F 94 h) fun r2 h => some (r2, h)) (fun h => zbd (fX2_number F 94 h) fun r2 h => some (r2, h)) F 0 h) hA9 hn.2 n 0 F h (by omega) (by omega) hA hr.1 (fun i hi => absurd hi (by omega))
  have hR := rng_PLn n
  have r1 : RepC g1 A n ar tb := RepC_keep (fun i k hi => a3 _ _ (by omega)) hr
  have A1 : g1 94 4 = (A : Int) := by rw [a3 _ _ (by decide)]; exact hA
  obtain ⟨g2, b1, b2, b3⟩ := join_eq (F := F) (by omega) hA9 hR.1 hn.2 ha hb A1 r1.1 a2
  have hJ := jn_PLn hR ha hb
  have hcl := bc_le (x := lds n (jnL (List.range n) a b)) n
  obtain ⟨g3, y, c1, c2, c3, c4, c5, c6, c7⟩ := joining_L (F := F) (k := fun h => zbd (fX2_number F 94 h) fun r2 h => some (r2, h)) (by omega) hA9 hk hw (bc (lds n (jnL (List.range n) a b)) n) 0 F (jnL (List.range n) a b) g2 hJ rfl (by omega) (by omega) (by rw [b3 _ _ (by decide)]; exact A1) (RepC_keep (fun i k hi => b3 _ _ (by omega)) r1) b2
  obtain ⟨j0, d1, d2⟩ := first_idx _ (cgL_mem hn c3 c4)
  have fr : ∀ c i, c ≠ 96 → g3 c i = h c i := fun c i hc => by rw [c7 c i hc, b3 c i hc, a3 c i hc]
  have nb := number_eq (F := F) (A := A) (h := g3) (j0 := j0) hF hn (by rw [fr _ _ (by decide)]; exact hA) (by rw [fr _ _ (by omega)]; exact hr.1) c2 c3 (by rw [fr _ _ (by decide)]; exact hf) (fun j x e => by rw [fr _ _ (by decide)]; exact hc j x e) d1 d2
  refine ⟨g3, y, j0, ?_, d1, d2, c3, ?_, fun z hz hcg hzab => c6 z hz hcg (crs_jn hR ha hb (fun u hu => by rw [rng_get hu]) hzab), fr⟩
  · unfold fX2_joining
    simp only [zjn_eq]
    refine a1.trans ?_
    show zbd (fX2_join F 94 (a : Int) (b : Int) g1) _ = _
    rw [b1, zbd_some]
    refine c1.trans ?_
    show zbd (fX2_number F 94 g3) _ = _
    rw [nb, zbd_some]
  · have e1 := c5 a ha
    have e2 := c5 b hb
    have e3 := jn_pq hR ha hb
    rw [← e1, ← e2, e3]
end NB
/-! the reference: the best so far -/
def bstF (P : List Nat → Bool) (cl : List Nat → Nat) : List (List Nat) → Nat → Int → Nat → Int
  | [], _, b, _ => b
  | l :: r, k, b, m => if P l = true ∧ m < cl l then bstF P cl r (k + 1) (k : Int) (cl l) else bstF P cl r (k + 1) b m
theorem bst_after {P : List Nat → Bool} {cl : List Nat → Nat} : ∀ (L : List (List Nat)) (k : Nat) (b : Int) (m : Nat), (∀ z ∈ L, P z = true → cl z ≤ m) → bstF P cl L k b m = b
  | [], _, _, _, _ => rfl
  | l :: L, k, b, m, h => by
    simp only [bstF]
    rw [if_neg (fun z => by have := h l List.mem_cons_self z.1; omega)]
    exact bst_after L (k + 1) b m (fun z hz => h z (List.mem_cons_of_mem _ hz))
theorem bst_first {P : List Nat → Bool} {cl : List Nat → Nat} {y : List Nat} (hP : P y = true) : ∀ (L : List (List Nat)) (j k : Nat) (b : Int) (m : Nat), L[j]? = some y → (∀ j' z, j' < j → L[j']? = some z → P z = true → cl z < cl y) → (∀ z ∈ L, P z = true → cl z ≤ cl y) → m < cl y → bstF P cl L k b m = ((k + j : Nat) : Int)
  | [], j, k, b, m, h, _, _, _ => absurd h (by simp)
  | l :: L, 0, k, b, m, h, _, h2, hm => by
    obtain rfl : l = y := by simpa using h
    simp only [bstF]
    rw [if_pos ⟨hP, hm⟩, bst_after L (k + 1) (k : Int) (cl l) (fun z hz => h2 z (List.mem_cons_of_mem _ hz))]
    rfl
  | l :: L, j + 1, k, b, m, h, h1, h2, hm => by
    have hl := h1 0 l (by omega) rfl
    simp only [bstF]
    have go : ∀ (b' : Int) (m' : Nat), m' < cl y → bstF P cl L (k + 1) b' m' = ((k + (j + 1) : Nat) : Int) := fun b' m' hm' => by
      rw [bst_first hP L j (k + 1) b' m' (by simpa using h) (fun j' z hj' hz => h1 (j' + 1) z (by omega) (by simpa using hz)) (fun z hz => h2 z (List.mem_cons_of_mem _ hz)) hm', show k + 1 + j = k + (j + 1) by omega]
    by_cases q : P l = true ∧ m < cl l
    · rw [if_pos q]; exact go _ _ (hl q.1)
    · rw [if_neg q]; exact go _ _ hm
theorem classes_eq {F n : Nat} {h : HF} {l : List Nat} (hF : 9 ≤ F) (hn : n ≤ 7) (hl : l.length = n) (hL : LN h 207 l) : fX12_classes F 181 (n : Int) h = some (((bc (lds n l) n : Nat) : Int), h) := by
  have L : ∀ (m a N : Nat), a + m = n → m + 1 ≤ N → LX12_classes_4 F 181 (n : Int) (fun x h => some (x, h)) N ((bc (lds n l) a : Nat) : Int) (a : Int) h = some (((bc (lds n l) n : Nat) : Int), h) := by
    intro m
    induction m with
    | zero =>
      intro a N ha hN
      obtain ⟨N, rfl⟩ : ∃ M, N = M + 1 := ⟨N - 1, by omega⟩
      obtain rfl : a = n := by omega
      rw [LX12_classes_4, if_neg (by omega)]
    | succ m ih =>
      intro a N ha hN
      obtain ⟨N, rfl⟩ : ∃ M, N = M + 1 := ⟨N - 1, by omega⟩
      have hb := bc_le (x := lds n l) a
      have i1 := ih (a + 1) N (by omega) (by omega)
      rw [bc_s] at i1
      rw [LX12_classes_4, if_pos (by omega), rdm26 (by omega), hL a (by omega)]
      simp only [zjn_eq, zlet_eq]
      rw [wr_s (by omega), wr_id ⟨by omega, by omega⟩, wr_id ⟨by omega, by omega⟩]
      by_cases q : l.getD a 0 = a
      · rw [if_pos ((lds_bit (show a < n by omega)).mpr q)] at i1
        rw [if_pos (by omega)]
        exact i1
      · rw [if_neg (fun z => q ((lds_bit (show a < n by omega)).mp z))] at i1
        rw [if_neg (by omega)]
        exact i1
  unfold fX12_classes
  simp only [zjn_eq]
  exact L n 0 F (by omega) (by omega)
