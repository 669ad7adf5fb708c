/-! joining classes of a line -/
def PLn (n : Nat) (x : List Nat) : Prop := x.length = n ∧ BD x ∧ lnB n x = true
theorem ln_of {n : Nat} {x : List Nat} (hB : BD x) (h : ∀ a, a < n → x.getD (x.getD a 0) 0 = x.getD a 0) : lnB n x = true := alB_iff.mpr (fun a _ ha => by
  rw [Bool.and_eq_true, decide_eq_true_eq, decide_eq_true_eq]
  exact ⟨hB a, h a (by omega)⟩)
def jnL (x : List Nat) (p q : Nat) : List Nat := x.map (fun v => if v = max (x.getD p 0) (x.getD q 0) then min (x.getD p 0) (x.getD q 0) else v)
section JN
variable {n p q : Nat} {x : List Nat}
theorem jn_get {i : Nat} (hi : i < x.length) : (jnL x p q).getD i 0 = if x.getD i 0 = max (x.getD p 0) (x.getD q 0) then min (x.getD p 0) (x.getD q 0) else x.getD i 0 := by
  unfold jnL
  have e : x.getD i 0 = x[i] := by rw [List.getD_eq_getElem?_getD, List.getElem?_eq_getElem hi]; rfl
  generalize max (x.getD p 0) (x.getD q 0) = M
  generalize min (x.getD p 0) (x.getD q 0) = m
  rw [List.getD_eq_getElem?_getD, List.getElem?_map, List.getElem?_eq_getElem hi, e]
  rfl
theorem jn_len : (jnL x p q).length = x.length := by unfold jnL; rw [List.length_map]
theorem gd_out {i : Nat} (hi : x.length ≤ i) : x.getD i 0 = 0 := by rw [List.getD_eq_getElem?_getD, List.getElem?_eq_none hi]; rfl
theorem jn_PLn (hx : PLn n x) (hp : p < n) (hq : q < n) : PLn n (jnL x p q) := by
  obtain ⟨h1, h2, h3⟩ := hx
  have bp := h2 p
  have bq := h2 q
  have ip := ln_idem h3 hp
  have iq := ln_idem h3 hq
  have hB : BD (jnL x p q) := fun i => by
    by_cases z : i < x.length
    · rw [jn_get z]
      have := h2 i
      by_cases w : x.getD i 0 = max (x.getD p 0) (x.getD q 0)
      · rw [if_pos w]; omega
      · rw [if_neg w]; exact this
    · rw [gd_out (by rw [jn_len]; omega)]; exact Nat.zero_le _
  refine ⟨by rw [jn_len]; exact h1, hB, ln_of hB (fun a ha => ?_)⟩
  have ba := h2 a
  have ia := ln_idem h3 ha
  have hm : x.getD (min (x.getD p 0) (x.getD q 0)) 0 = min (x.getD p 0) (x.getD q 0) := by
    rcases Nat.le_total (x.getD p 0) (x.getD q 0) with z | z
    · rw [Nat.min_eq_left z]; exact ip
    · rw [Nat.min_eq_right z]; exact iq
  rw [jn_get (i := a) (by omega)]
  by_cases w : x.getD a 0 = max (x.getD p 0) (x.getD q 0)
  · rw [if_pos w, jn_get (by omega), hm]
    by_cases v : min (x.getD p 0) (x.getD q 0) = max (x.getD p 0) (x.getD q 0)
    · rw [if_pos v]
    · rw [if_neg v]
  · rw [if_neg w, jn_get (by omega), ia, if_neg w]
/-- z is coarser than x -/
def crs (n : Nat) (x z : List Nat) : Prop := ∀ u, u < n → z.getD (x.getD u 0) 0 = z.getD u 0
theorem crs_jn {z : List Nat} (hx : PLn n x) (hp : p < n) (hq : q < n) (hc : crs n x z) (hz : z.getD p 0 = z.getD q 0) : crs n (jnL x p q) z := by
  intro u hu
  have cp := hc p hp
  have cq := hc q hq
  have cu := hc u hu
  rw [jn_get (by rw [hx.1]; exact hu)]
  by_cases w : x.getD u 0 = max (x.getD p 0) (x.getD q 0)
  · rw [if_pos w, ← cu, w]
    rcases Nat.le_total (x.getD p 0) (x.getD q 0) with y | y
    · rw [Nat.min_eq_left y, Nat.max_eq_right y, cp, cq, hz]
    · rw [Nat.min_eq_right y, Nat.max_eq_left y, cp, cq, hz]
  · rw [if_neg w]; exact cu
theorem jn_crs {y : List Nat} (hx : PLn n x) (hp : p < n) (hq : q < n) (hc : crs n y x) (hy : PLn n y) : crs n y (jnL x p q) := by
  intro u hu
  have by' := hy.2.1 u
  rw [jn_get (by rw [hx.1]; omega), jn_get (by rw [hx.1]; exact hu), hc u hu]
theorem jn_pq (hx : PLn n x) (hp : p < n) (hq : q < n) : (jnL x p q).getD p 0 = (jnL x p q).getD q 0 := by
  rw [jn_get (by rw [hx.1]; exact hp), jn_get (by rw [hx.1]; exact hq)]
  rcases Nat.le_total (x.getD p 0) (x.getD q 0) with y | y
  · rw [Nat.min_eq_left y, Nat.max_eq_right y, if_pos rfl]
    by_cases w : x.getD p 0 = x.getD q 0
    · rw [if_pos w]
    · rw [if_neg w]
  · rw [Nat.min_eq_right y, Nat.max_eq_left y, if_pos rfl]
    by_cases w : x.getD q 0 = x.getD p 0
    · rw [if_pos w]
    · rw [if_neg w]
theorem lds_lt {a : Nat} (h : (lds n x).testBit a = true) : a < n := bit_lt (bts_lt n) h
theorem jn_less (hx : PLn n x) (hp : p < n) (hq : q < n) (hne : x.getD p 0 ≠ x.getD q 0) : bc (lds n (jnL x p q)) n < bc (lds n x) n := by
  obtain ⟨h1, h2, h3⟩ := hx
  have bp := h2 p
  have bq := h2 q
  refine (bc_mono (x := lds n (jnL x p q)) (y := lds n x) (fun j hj => ?_) n).2 ⟨max (x.getD p 0) (x.getD q 0), by omega, ?_, ?_⟩
  · have hjn := lds_lt hj
    rw [lds_bit hjn] at hj ⊢
    rw [jn_get (by omega)] at hj
    by_cases w : x.getD j 0 = max (x.getD p 0) (x.getD q 0)
    · rw [if_pos w] at hj
      have := h2 j
      omega
    · rw [if_neg w] at hj; exact hj
  · rw [lds_bit (by omega)]
    rcases Nat.le_total (x.getD p 0) (x.getD q 0) with z | z
    · rw [Nat.max_eq_right z]; exact ln_idem h3 hq
    · rw [Nat.max_eq_left z]; exact ln_idem h3 hp
  · rw [lds_bit (by omega)]
    intro hj
    have hM : x.getD (max (x.getD p 0) (x.getD q 0)) 0 = max (x.getD p 0) (x.getD q 0) := by
      rcases Nat.le_total (x.getD p 0) (x.getD q 0) with z | z
      · rw [Nat.max_eq_right z]; exact ln_idem h3 hq
      · rw [Nat.max_eq_left z]; exact ln_idem h3 hp
    rw [jn_get (by omega), if_pos hM] at hj
    omega
theorem lds_pos (hx : PLn n x) (hn : 1 ≤ n) : 1 ≤ bc (lds n x) n := by
  have h0 : x.getD 0 0 = 0 := by have := hx.2.1 0; omega
  exact bc_step ((lds_bit (show 0 < n by omega)).mpr h0) n (by omega)
/-- coarser and as many classes: the same -/
theorem crs_eq {z : List Nat} (hx : PLn n x) (hz : PLn n z) (hc : crs n x z) : bc (lds n z) n ≤ bc (lds n x) n ∧ (bc (lds n z) n = bc (lds n x) n → z = x) := by
  have hs : sbs (lds n z) (lds n x) := fun j hj => by
    have hjn := lds_lt hj
    rw [lds_bit hjn] at hj ⊢
    have h1 := hc j hjn
    have h2 := hx.2.1 j
    have h3 := hz.2.1 (x.getD j 0)
    omega
  have hm := bc_mono hs n
  refine ⟨hm.1, fun e => ?_⟩
  have hall : ∀ j, j < n → (lds n x).testBit j = true → (lds n z).testBit j = true := fun j hj hb => by
    refine Classical.byContradiction (fun w => ?_)
    have := hm.2 ⟨j, hj, hb, w⟩
    omega
  have hget : ∀ u, u < n → z.getD u 0 = x.getD u 0 := fun u hu => by
    have hb := hx.2.1 u
    have h1 := hc u hu
    have h2 := hall (x.getD u 0) (by omega) ((lds_bit (by omega)).mpr (ln_idem hx.2.2 hu))
    rw [lds_bit (by omega)] at h2
    rw [← h1, h2]
  refine List.ext_getElem (by rw [hz.1, hx.1]) (fun i h1 h2 => ?_)
  have := hget i (by rw [← hz.1]; exact h1)
  rw [List.getD_eq_getElem?_getD, List.getD_eq_getElem?_getD, List.getElem?_eq_getElem h1, List.getElem?_eq_getElem h2] at this
  exact this
end JN
section CP
variable {n : Nat} {ar : List Nat} {tb : Nat → Nat → Int} {x z : List Nat}
/-- a congruence joins the values where it joins an argument -/
theorem cg_step (hw : WF n ar tb) (hz : PLn n z) (hcg : cgP tb n ar z) {o e f b : Nat} (ho : o < ar.length) (he : e < n) (hf : f < n) (hb : b < clN n (ar.getD o 0)) (h : z.getD e 0 = z.getD f 0) : z.getD (vl tb n ar o e b) 0 = z.getD (vl tb n ar o f b) 0 ∧ (ar.getD o 0 = 2 → z.getD (vl tb n ar o b e) 0 = z.getD (vl tb n ar o b f) 0) := by
  have h2 := hw.2.2.1 o ho
  have hle := rw_le (n := n) (r := ar.getD o 0) hw.1.1
  have hrc : ar.getD o 0 = 0 ∨ ar.getD o 0 = 1 ∨ ar.getD o 0 = 2 := by omega
  rcases hrc with r | r | r
  · refine ⟨?_, fun q => absurd q (by omega)⟩
    rw [vl_congr (a := e) (b := b) (a' := f) (b' := b) (fun q => absurd q (by omega)) (fun _ => rfl)]
  · have hrw : rwN n (ar.getD o 0) = n := by unfold rwN; rw [if_neg (by omega)]
    refine ⟨?_, fun q => absurd q (by omega)⟩
    rw [hcg o e b ho (by omega) hb, hcg o f b ho (by omega) hb, h]
  · have hrw : rwN n (ar.getD o 0) = n := by unfold rwN; rw [if_neg (by omega)]
    have hcl : clN n (ar.getD o 0) = n := by unfold clN; rw [if_pos r]
    refine ⟨?_, fun _ => ?_⟩
    · rw [hcg o e b ho (by omega) hb, hcg o f b ho (by omega) hb, h]
    · rw [hcg o b e ho (by omega) (by omega), hcg o b f ho (by omega) (by omega), h]
theorem clo3_pair (hw : WF n ar tb) (hz : PLn n z) (hcg : cgP tb n ar z) {o e f : Nat} (ho : o < ar.length) (he : e < n) (hf : f < n) (h : z.getD e 0 = z.getD f 0) {pr : Nat × Nat} : ∀ (m b : Nat), b + m ≤ clN n (ar.getD o 0) → clo3 tb n ar x o e f b m = some pr → x.getD pr.1 0 ≠ x.getD pr.2 0 ∧ z.getD pr.1 0 = z.getD pr.2 0
  | 0, b, _, e => by simp [clo3] at e
  | m + 1, b, hb, ee => by
    have st := cg_step hw hz hcg (b := b) ho he hf (by omega) h
    simp only [clo3] at ee
    by_cases q1 : x.getD (vl tb n ar o e b) 0 = x.getD (vl tb n ar o f b) 0
    · rw [if_pos q1] at ee
      by_cases q2 : ar.getD o 0 = 2
      · rw [if_pos q2] at ee
        by_cases q3 : x.getD (vl tb n ar o b e) 0 = x.getD (vl tb n ar o b f) 0
        · rw [if_pos q3] at ee
          exact clo3_pair hw hz hcg ho he hf h m (b + 1) (by omega) ee
        · rw [if_neg q3] at ee
          obtain rfl : (vl tb n ar o b e, vl tb n ar o b f) = pr := by simpa using ee
          exact ⟨q3, st.2 q2⟩
      · rw [if_neg q2] at ee
        exact clo3_pair hw hz hcg ho he hf h m (b + 1) (by omega) ee
    · rw [if_neg q1] at ee
      obtain rfl : (vl tb n ar o e b, vl tb n ar o f b) = pr := by simpa using ee
      exact ⟨q1, st.1⟩
theorem clo2_some {e : Nat} {pr : Nat × Nat} : ∀ (m o : Nat), clo2 tb n ar x e o m = some pr → ∃ o', o ≤ o' ∧ o' < o + m ∧ clo3 tb n ar x o' e (x.getD e 0) 0 (clN n (ar.getD o' 0)) = some pr
  | 0, o, h => by simp [clo2] at h
  | m + 1, o, h => by
    simp only [clo2] at h
    cases q : clo3 tb n ar x o e (x.getD e 0) 0 (clN n (ar.getD o 0)) with
    | none =>
      rw [q] at h
      obtain ⟨o', h1, h2, h3⟩ := clo2_some m (o + 1) h
      exact ⟨o', by omega, by omega, h3⟩
    | some p =>
      rw [q] at h
      obtain rfl : p = pr := by simpa using h
      exact ⟨o, Nat.le_refl _, by omega, q⟩
theorem clo1_some {pr : Nat × Nat} : ∀ (m e : Nat), clo1 tb n ar x e m = some pr → ∃ e', e ≤ e' ∧ e' < e + m ∧ clo2 tb n ar x e' 0 ar.length = some pr
  | 0, e, h => by simp [clo1] at h
  | m + 1, e, h => by
    simp only [clo1] at h
    by_cases w : x.getD e 0 = e
    · rw [if_pos w] at h
      obtain ⟨o', h1, h2, h3⟩ := clo1_some m (e + 1) h
      exact ⟨o', by omega, by omega, h3⟩
    · rw [if_neg w] at h
      cases q : clo2 tb n ar x e 0 ar.length with
      | none =>
        rw [q] at h
        obtain ⟨o', h1, h2, h3⟩ := clo1_some m (e + 1) h
        exact ⟨o', by omega, by omega, h3⟩
      | some p =>
        rw [q] at h
        obtain rfl : p = pr := by simpa using h
        exact ⟨e, Nat.le_refl _, by omega, q⟩
/-- a clash: two elements of different classes, which every coarser congruence joins -/
theorem clash_pair (hw : WF n ar tb) (hx : PLn n x) {pr : Nat × Nat} (h : clo1 tb n ar x 1 (n - 1) = some pr) : pr.1 < n ∧ pr.2 < n ∧ x.getD pr.1 0 ≠ x.getD pr.2 0 ∧ ∀ z, PLn n z → cgP tb n ar z → crs n x z → z.getD pr.1 0 = z.getD pr.2 0 := by
  have hn := hw.1
  obtain ⟨e, e1, e2, e3⟩ := clo1_some _ _ h
  obtain ⟨o, o1, o2, o3⟩ := clo2_some _ _ e3
  have hbe := hx.2.1 e
  obtain ⟨p1, p2⟩ := clo3_lt hw (by omega) (show e < n by omega) (show x.getD e 0 < n by omega) _ _ (by omega) o3
  refine ⟨p1, p2, ?_, fun z hz hcg hc => ?_⟩
  · -- by the finest congruence of all: equality
    have hid : PLn n (List.range n) := by
      have hg : ∀ i, i < n → (List.range n).getD i 0 = i := fun i hi => by rw [List.getD_eq_getElem?_getD, List.getElem?_range hi]; rfl
      have hB : BD (List.range n) := fun i => by
        by_cases w : i < n
        · rw [hg i w]; exact Nat.le_refl _
        · rw [gd_out (by rw [List.length_range]; omega)]; exact Nat.zero_le _
      exact ⟨List.length_range, hB, ln_of hB (fun a ha => by rw [hg a ha, hg a ha])⟩
    intro he
    have hne : ∀ (m b : Nat), clo3 tb n ar x o e (x.getD e 0) b m = some pr → x.getD pr.1 0 ≠ x.getD pr.2 0 := by
      intro m
      induction m with
      | zero => intro b h; simp [clo3] at h
      | succ m ih =>
        intro b h
        simp only [clo3] at h
        by_cases q1 : x.getD (vl tb n ar o e b) 0 = x.getD (vl tb n ar o (x.getD e 0) b) 0
        · rw [if_pos q1] at h
          by_cases q2 : ar.getD o 0 = 2
          · rw [if_pos q2] at h
            by_cases q3 : x.getD (vl tb n ar o b e) 0 = x.getD (vl tb n ar o b (x.getD e 0)) 0
            · rw [if_pos q3] at h; exact ih (b + 1) h
            · rw [if_neg q3] at h
              obtain rfl : (vl tb n ar o b e, vl tb n ar o b (x.getD e 0)) = pr := by simpa using h
              exact q3
          · rw [if_neg q2] at h; exact ih (b + 1) h
        · rw [if_neg q1] at h
          obtain rfl : (vl tb n ar o e b, vl tb n ar o (x.getD e 0) b) = pr := by simpa using h
          exact q1
    exact hne _ _ o3 he
  · exact (clo3_pair hw hz hcg (by omega) (show e < n by omega) (show x.getD e 0 < n by omega) (hc e (by omega)).symm _ _ (by omega) o3).2
end CP
