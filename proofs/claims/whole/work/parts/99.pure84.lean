/-! maps: the reference's recursion; both searches find the same -/
def FndM (Ls : List (List Nat)) (c : Nat) (w : Int) (r : Int) (h : HF) : Prop := (r = 1 ∧ ∃ (j : Nat) (x : List Nat), Ls[j]? = some x ∧ w = ((c + j : Nat) : Int) ∧ LN h 210 x) ∨ (r = 0 ∧ (w < 0 ∨ ((c + Ls.length : Nat) : Int) ≤ w) ∧ h 181 43 = ((c + Ls.length : Nat) : Int))
theorem FndM_left {Ls Ms : List (List Nat)} {c : Nat} {w r : Int} {h : HF} (hr : r = 1) (hq : ∃ (j : Nat) (x : List Nat), Ls[j]? = some x ∧ w = ((c + j : Nat) : Int) ∧ LN h 210 x) : FndM (Ls ++ Ms) c w r h := by
  obtain ⟨j, x, h1, h2⟩ := hq
  have hj : j < Ls.length := by
    by_cases z : j < Ls.length
    · exact z
    · rw [List.getElem?_eq_none (by omega)] at h1; cases h1
  exact Or.inl ⟨hr, j, x, by rw [List.getElem?_append_left hj]; exact h1, h2⟩
theorem FndM_right {Ls Ms : List (List Nat)} {c : Nat} {w r : Int} {h : HF} (hF : FndM Ms (c + Ls.length) w r h) : FndM (Ls ++ Ms) c w r h := by
  rcases hF with ⟨h0, j, x, h1, h2, h3⟩ | ⟨h1, h2, h3⟩
  · refine Or.inl ⟨h0, Ls.length + j, x, ?_, by omega, h3⟩
    rw [List.getElem?_append_right (by omega), show Ls.length + j - Ls.length = j by omega]
    exact h1
  · refine Or.inr ⟨h1, ?_, ?_⟩
    · rw [List.length_append]; omega
    · rw [List.length_append, h3]; omega
section MX
variable {F n n2 d e : Nat} {ar : List Nat} {tb tb2 : Nat → Nat → Int} {w : Int}
theorem maps_m {what : Nat} (hF : 200 ≤ F) (hd : d < 10) (he : e < 10) (hw1 : WF n ar tb) (hw2 : WF n2 ar tb2) (hwh : what < 4) : ∀ (k D : Nat) (l : List Nat) (c : Nat) (h : HF), k + 1 ≤ D → l.length + k = n → (∀ i, i < l.length → l.getD i 0 < n2) → MXm h d e n n2 ar tb tb2 w → LN h 210 l → h 181 43 = (c : Int) → c + (RM (goB tb tb2 n n2 ar) (whB what n2) n2 k l).length ≤ 900000 → (w < 0 ∨ (c : Int) ≤ w) → ∃ r h', fX12_maps F D 181 (d : Int) (e : Int) (what : Int) (l.length : Int) h = some (r, h') ∧ FndM (RM (goB tb tb2 n n2 ar) (whB what n2) n2 k l) c w r h' ∧ (r = 0 → ∀ i, i < l.length → h' 210 i = h 210 i) ∧ ∀ c i, c ≠ 210 → (c ≠ 181 ∨ i ≠ 43) → h' c i = h c i := by
  have hn := hw1.1
  have hn2 := hw2.1
  intro k
  induction k with
  | zero =>
    intro D l c h hD hl hv hM hL h0 hc hw
    obtain ⟨D, rfl⟩ : ∃ M, D = M + 1 := ⟨D - 1, by omega⟩
    rw [fX12_maps, msz hd hM.1, if_pos (by omega), isWhat_eq (F := F) (by omega) hd he hw1 hw2 hM hL (by omega) hv hwh, zbd_some, zjn_eq]
    have e0 : RM (goB tb tb2 n n2 ar) (whB what n2) n2 0 l = if whB what n2 l = true then [l] else [] := rfl
    rw [e0] at hc ⊢
    cases hq : whB what n2 l with
    | false =>
      rw [if_pos (show bi false = 0 from rfl), if_neg (by decide)]
      exact ⟨0, h, rfl, Or.inr ⟨rfl, by simpa using hw, by simpa using h0⟩, fun _ _ _ => rfl, fun _ _ _ _ => rfl⟩
    | true =>
      rw [hq, if_pos rfl] at hc
      rw [if_neg (show ¬ bi true = 0 by decide), if_pos rfl, zgf_eq, h0, zgf_eq, hM.2.2]
      by_cases z : (c : Int) = w
      · rw [if_pos z]
        exact ⟨1, h, rfl, Or.inl ⟨rfl, 0, l, rfl, by omega, hL⟩, fun y => absurd y (by decide), fun _ _ _ _ => rfl⟩
      · rw [if_neg z, zgf_eq, h0, wr_s (by simp only [List.length_cons] at hc; omega), zpf_eq]
        exact ⟨0, stp h 181 43 ((c + 1 : Nat) : Int), rfl, Or.inr ⟨rfl, by simp only [List.length_cons, List.length_nil]; omega, by rw [stp_eq]; rfl⟩, fun _ i hi => stp_ne (by omega), fun c i y x => stp_ne x⟩
  | succ k ih =>
    intro D l c h hD hl hv hM hL h0 hc hw
    obtain ⟨D, rfl⟩ : ∃ M, D = M + 1 := ⟨D - 1, by omega⟩
    have hl7 : l.length < 7 := by omega
    have loop : ∀ (m v N c : Nat) (h : HF), v + m = n2 → m + 1 ≤ N → MXm h d e n n2 ar tb tb2 w → LN h 210 l → h 181 43 = (c : Int) → c + (flF (fun v => if goB tb tb2 n n2 ar (l ++ [v]) = true then RM (goB tb tb2 n n2 ar) (whB what n2) n2 k (l ++ [v]) else []) m v).length ≤ 900000 → (w < 0 ∨ (c : Int) ≤ w) → ∃ r h', LX12_maps_49 F (fX12_maps F D) 181 (d : Int) (e : Int) (what : Int) (l.length : Int) (fun h => zrz 0 h) (fun h => zrz 1 h) N (v : Int) h = some (r, h') ∧ FndM (flF (fun v => if goB tb tb2 n n2 ar (l ++ [v]) = true then RM (goB tb tb2 n n2 ar) (whB what n2) n2 k (l ++ [v]) else []) m v) c w r h' ∧ (r = 0 → ∀ i, i < l.length → h' 210 i = h 210 i) ∧ ∀ c i, c ≠ 210 → (c ≠ 181 ∨ i ≠ 43) → h' c i = h c i := by
      intro m
      induction m with
      | zero =>
        intro v N c h hv' hN hM hL h0 hc hw
        obtain ⟨N, rfl⟩ : ∃ M, N = M + 1 := ⟨N - 1, by omega⟩
        refine ⟨0, h, ?_, Or.inr ⟨rfl, by simpa [flF] using hw, by simpa [flF] using h0⟩, fun _ _ _ => rfl, fun _ _ _ _ => rfl⟩
        rw [LX12_maps_49, msz he hM.2.1, if_neg (by omega)]
        rfl
      | succ m ihm =>
        intro v N c h hv' hN hM hL h0 hc hw
        obtain ⟨N, rfl⟩ : ∃ M, N = M + 1 := ⟨N - 1, by omega⟩
        rw [flF_s] at hc ⊢
        rw [List.length_append] at hc
        have hM1 : MXm (stp h 210 l.length (v : Int)) d e n n2 ar tb tb2 w := MX_keep (fun c i z _ => stp_ne (Or.inl z)) hM
        have hL1 := LN_snoc (v := v) hL
        have le : (l ++ [v]).length = l.length + 1 := by rw [List.length_append]; rfl
        have hv1 : ∀ i, i < (l ++ [v]).length → (l ++ [v]).getD i 0 < n2 := fun i hi => by
          rw [le] at hi
          by_cases z : i = l.length
          · subst z; rw [gd_eq]; omega
          · rw [gd_lt (by omega)]; exact hv i (by omega)
        have go := goes_eq (F := F) (by omega) hd he hw1 hw2 hM1 hL1 (by omega) (by omega) hv1
        rw [le] at go
        rw [LX12_maps_49, msz he hM.2.1, if_pos (by omega), wtm29 hl7, wr_s (by omega), go, zbd_some]
        simp only [zjn_eq, zlet_eq]
        rw [wr_s (by omega)]
        cases hq : goB tb tb2 n n2 ar (l ++ [v]) with
        | false =>
          rw [hq, if_neg (by decide)] at hc
          rw [if_pos (show bi false = 0 from rfl), if_neg (by decide), List.nil_append]
          obtain ⟨r, h', y1, y2, y3, y4⟩ := ihm (v + 1) N c (stp h 210 l.length (v : Int)) (by omega) (by omega) hM1 (fun i hi => by rw [stp_ne (by omega)]; exact hL i hi) (by rw [stp_ne (by omega)]; exact h0) (by simpa using hc) hw
          exact ⟨r, h', y1, y2, fun z i hi => by rw [y3 z i hi, stp_ne (by omega)], fun c i z y => by rw [y4 c i z y, stp_ne (Or.inl z)]⟩
        | true =>
          rw [hq, if_pos rfl] at hc
          rw [if_neg (show ¬ bi true = 0 by decide), if_pos rfl]
          obtain ⟨r1, h1, x1, x2, x3, x4⟩ := ih D (l ++ [v]) c (stp h 210 l.length (v : Int)) (by omega) (by omega) hv1 hM1 hL1 (by rw [stp_ne (by omega)]; exact h0) (by omega) hw
          rw [le] at x1 x3
          rw [x1, zbd_some]
          have k2 : ∀ c i, c ≠ 210 → (c ≠ 181 ∨ i ≠ 43) → h1 c i = h c i := fun c i z y => by rw [x4 c i z y, stp_ne (Or.inl z)]
          rcases x2 with ⟨x2, x5⟩ | ⟨x2, x5, x6⟩
          · rw [x2, if_neg (show ¬ (1 : Int) = 0 by decide)]
            exact ⟨1, h1, rfl, FndM_left rfl x5, fun y => absurd y (by decide), k2⟩
          · have k1 : ∀ i, i < l.length → h1 210 i = h 210 i := fun i hi => by rw [x3 x2 i (by omega), stp_ne (by omega)]
            rw [x2, if_pos rfl]
            obtain ⟨r, h', y1, y2, y3, y4⟩ := ihm (v + 1) N (c + (RM (goB tb tb2 n n2 ar) (whB what n2) n2 k (l ++ [v])).length) h1 (by omega) (by omega) (MX_keep k2 hM) (fun i hi => by rw [k1 i hi]; exact hL i hi) x6 (by omega) x5
            exact ⟨r, h', y1, FndM_right y2, fun z i hi => by rw [y3 z i hi, k1 i hi], fun c i z y => by rw [y4 c i z y, k2 c i z y]⟩
    rw [RM_s] at hc ⊢
    obtain ⟨r, h', y1, y2, y3, y4⟩ := loop n2 0 F c h (by omega) (by omega) hM hL h0 hc hw
    refine ⟨r, h', ?_, y2, y3, y4⟩
    rw [fX12_maps, msz hd hM.1, if_neg (by omega), zjn_eq, zjn_eq]
    exact y1
end MX
/-! the two lists of maps are one -/
section EQ
variable {n n2 : Nat} {ar : List Nat} {tb tb2 : Nat → Nat → Int}
theorem RM_ext {P W : List Nat → Bool} : ∀ (k : Nat) (l x : List Nat), x ∈ RM P W n2 k l → W x = true ∧ ∃ s : List Nat, x = l ++ s ∧ s.length = k ∧ ∀ v ∈ s, v < n2
  | 0, l, x, h => by
    have e0 : RM P W n2 0 l = if W l = true then [l] else [] := rfl
    rw [e0] at h
    by_cases q : W l = true
    · rw [if_pos q, List.mem_singleton] at h
      subst h
      exact ⟨q, [], by simp, rfl, fun v hv => absurd hv (by simp)⟩
    · rw [if_neg q] at h; exact absurd h (by simp)
  | k + 1, l, x, h => by
    rw [RM_s, mem_flF] at h
    obtain ⟨v, _, hv, h⟩ := h
    by_cases q : P (l ++ [v]) = true
    · rw [if_pos q] at h
      obtain ⟨h1, s, h2, h3, h4⟩ := RM_ext k (l ++ [v]) x h
      refine ⟨h1, v :: s, by rw [h2, List.append_assoc]; rfl, by simp [h3], fun u hu => ?_⟩
      rcases List.mem_cons.mp hu with z | z
      · omega
      · exact h4 u z
    · rw [if_neg q] at h; exact absurd h (by simp)
theorem bc_us : ∀ (s l : List Nat), (∀ v ∈ s, v < 7) → bc (usB (l ++ s)) 7 ≤ bc (usB l) 7 + s.length
  | [], l, _ => by rw [List.append_nil]; exact Nat.le_refl _
  | v :: s, l, h => by
    have h1 := bc_us s (l ++ [v]) (fun u hu => h u (by simp [hu]))
    rw [List.append_assoc] at h1
    have hv := h v (by simp)
    have h2 := bc_or (usB l) (us_lt l) v hv
    rw [← us_snoc hv] at h2
    simp only [List.length_cons]
    have : [v] ++ s = v :: s := rfl
    rw [this] at h1
    omega
/-- the reference's test of a line: that of the line before, and the class's -/
theorem go_q (hw : WF n ar tb) (hw2 : WF n2 ar tb2) {l : List Nat} {v : Nat} (hl : l.length < n) : goB tb tb2 n n2 ar (l ++ [v]) = (goB tb tb2 n n2 ar l && qB tb tb2 n n2 ar (l ++ [v])) := by
  have le : (l ++ [v]).length = l.length + 1 := by rw [List.length_append]; rfl
  have hn := hw.1
  -- what the tests say
  have G : ∀ l' : List Nat, l'.length ≤ n → (goB tb tb2 n n2 ar l' = true ↔ ∀ o a b, o < ar.length → a < rwN n (ar.getD o 0) → b < clN n (ar.getD o 0) → (0 < ar.getD o 0 → a < l'.length) → (1 < ar.getD o 0 → b < l'.length) → vl tb n ar o a b < l'.length → l'.getD (vl tb n ar o a b) 0 = vl tb2 n2 ar o (l'.getD a 0) (l'.getD b 0)) := fun l' hl' => by
    have vc : ∀ o a b, vl tb2 n2 ar o (if 0 < ar.getD o 0 then l'.getD a 0 else 0) (if 1 < ar.getD o 0 then l'.getD b 0 else 0) = vl tb2 n2 ar o (l'.getD a 0) (l'.getD b 0) := fun o a b => vl_congr (fun z => if_pos (by omega)) (fun z => if_pos (by omega))
    unfold goB
    rw [alB_iff]
    constructor
    · intro h o a b ho ha hb pa pb hv
      have h1 := h o (by omega) (by omega)
      rw [alB_iff] at h1
      have ra := hw.2.2.1 o ho
      have ha' : a < (if 0 < ar.getD o 0 then l'.length else 1) := by
        by_cases z : 0 < ar.getD o 0
        · rw [if_pos z]; exact pa z
        · rw [if_neg z]; unfold rwN at ha; rw [if_pos (by omega)] at ha; exact ha
      have hb' : b < (if 1 < ar.getD o 0 then l'.length else 1) := by
        by_cases z : 1 < ar.getD o 0
        · rw [if_pos z]; exact pb z
        · rw [if_neg z]; unfold clN at hb; rw [if_neg (by omega)] at hb; exact hb
      have h2 := h1 a (by omega) (by omega)
      rw [alB_iff] at h2
      have h3 := h2 b (by omega) (by omega)
      unfold g1B at h3
      rw [vc, decide_eq_true hv, Bool.not_true, Bool.false_or, decide_eq_true_eq] at h3
      exact h3
    · intro h o _ ho
      rw [alB_iff]
      intro a _ ha
      rw [alB_iff]
      intro b _ hb
      unfold g1B
      rw [vc]
      by_cases hv : vl tb n ar o a b < l'.length
      · rw [decide_eq_true hv, Bool.not_true, Bool.false_or, decide_eq_true_eq]
        have ra := hw.2.2.1 o (by omega)
        refine h o a b (by omega) ?_ ?_ ?_ ?_ hv
        · unfold rwN
          by_cases z : ar.getD o 0 = 0
          · rw [if_pos z]; rw [if_neg (by omega)] at ha; omega
          · rw [if_neg z]; rw [if_pos (by omega)] at ha; omega
        · unfold clN
          by_cases z : ar.getD o 0 = 2
          · rw [if_pos z]; rw [if_pos (by omega)] at hb; omega
          · rw [if_neg z]; rw [if_neg (by omega)] at hb; omega
        · intro z; rw [if_pos z] at ha; omega
        · intro z; rw [if_pos z] at hb; omega
      · rw [decide_eq_false hv, Bool.not_false, Bool.true_or]
  have Q : qB tb tb2 n n2 ar (l ++ [v]) = true ↔ ∀ o a b, o < ar.length → a < rwN n (ar.getD o 0) → b < clN n (ar.getD o 0) → mxC tb n ar o a b = l.length → (l ++ [v]).getD (vl tb n ar o a b) 0 = vl tb2 n2 ar o ((l ++ [v]).getD a 0) ((l ++ [v]).getD b 0) := by
    unfold qB
    rw [le, Nat.add_sub_cancel, List.all_eq_true]
    constructor
    · intro h o a b ho ha hb hm
      have := h (o, a, b) (mem_gE.mpr ⟨ho, ha, hb, hm⟩)
      unfold ckB at this
      exact (of_decide_eq_true this).symm
    · intro h q hq
      obtain ⟨m1, m2, m3, m4⟩ := mem_gE.mp hq
      unfold ckB
      exact decide_eq_true (h q.1 q.2.1 q.2.2 m1 m2 m3 m4).symm
  -- arguments that an operation has not are 0
  have arg : ∀ o a b, o < ar.length → a < rwN n (ar.getD o 0) → b < clN n (ar.getD o 0) → (¬ 0 < ar.getD o 0 → a = 0) ∧ (¬ 1 < ar.getD o 0 → b = 0) := fun o a b ho ha hb => by
    have ra := hw.2.2.1 o ho
    refine ⟨fun z => ?_, fun z => ?_⟩
    · unfold rwN at ha; rw [if_pos (by omega)] at ha; omega
    · unfold clN at hb; rw [if_neg (by omega)] at hb; omega
  apply Bool.eq_iff_iff.mpr
  rw [Bool.and_eq_true, G _ (by omega), G l (by omega), Q]
  constructor
  · intro h
    refine ⟨fun o a b ho ha hb pa pb hv => ?_, fun o a b ho ha hb hm => ?_⟩
    · have h1 := h o a b ho ha hb (fun z => by have := pa z; omega) (fun z => by have := pb z; omega) (by omega)
      rw [gd_lt hv] at h1
      rw [h1]
      exact vl_congr (fun z => gd_lt (pa (by omega))) (fun z => gd_lt (pb (by omega)))
    · unfold mxC at hm
      exact h o a b ho ha hb (fun _ => by omega) (fun _ => by omega) (by omega)
  · rintro ⟨h1, h2⟩ o a b ho ha hb pa pb hv
    obtain ⟨a0, b0⟩ := arg o a b ho ha hb
    by_cases q : mxC tb n ar o a b = l.length
    · exact h2 o a b ho ha hb q
    · have q' : vl tb n ar o a b < l.length ∧ (0 < ar.getD o 0 → a < l.length) ∧ (1 < ar.getD o 0 → b < l.length) := by
        have pa' : a ≤ l.length := by
          by_cases z : 0 < ar.getD o 0
          · have := pa z; omega
          · rw [a0 z]; omega
        have pb' : b ≤ l.length := by
          by_cases z : 1 < ar.getD o 0
          · have := pb z; omega
          · rw [b0 z]; omega
        unfold mxC at q
        omega
      have h3 := h1 o a b ho ha hb q'.2.1 q'.2.2 q'.1
      rw [gd_lt q'.1, h3]
      exact (vl_congr (fun z => gd_lt (q'.2.1 (by omega))) (fun z => gd_lt (q'.2.2 (by omega)))).symm
theorem go_nil : goB tb tb2 n n2 ar [] = true := by
  unfold goB
  rw [alB_iff]
  intro o _ _
  rw [alB_iff]
  intro a _ _
  rw [alB_iff]
  intro b _ _
  unfold g1B
  rw [decide_eq_false (by simp), Bool.not_false, Bool.true_or]
theorem wh_iff {what : Nat} {l : List Nat} (hwh : what < 4) : whB what n2 l = true ↔ ((what = 1 ∨ what = 3) → l.Nodup) ∧ ((what = 2 ∨ what = 3) → usB l = 2 ^ n2 - 1) := by
  unfold whB
  rw [Bool.and_eq_true, Bool.or_eq_true, Bool.or_eq_true, decide_eq_true_eq, decide_eq_true_eq, decide_eq_true_eq, decide_eq_true_eq]
  constructor
  · rintro ⟨h1, h2⟩
    exact ⟨fun z => h1.resolve_left (by omega), fun z => h2.resolve_left (by omega)⟩
  · rintro ⟨h1, h2⟩
    refine ⟨?_, ?_⟩
    · by_cases z : what % 2 = 0
      · exact Or.inl z
      · exact Or.inr (h1 (by omega))
    · by_cases z : what < 2
      · exact Or.inl z
      · exact Or.inr (h2 (by omega))
theorem CM_RM {what : Nat} (hw : WF n ar tb) (hw2 : WF n2 ar tb2) (hwh : what < 4) : ∀ (k : Nat) (l : List Nat), l.length + k = n → (∀ v ∈ l, v < n2) → goB tb tb2 n n2 ar l = true → ((what = 1 ∨ what = 3) → l.Nodup) → (k = 0 → (what = 2 ∨ what = 3) → usB l = 2 ^ n2 - 1) → CM (qB tb tb2 n n2 ar) (skp (decide (what = 1 ∨ what = 3)) (decide (what = 2 ∨ what = 3)) n2) n2 k l = RM (goB tb tb2 n n2 ar) (whB what n2) n2 k l := by
  have hn := hw.1
  have hn2 := hw2.1
  intro k
  induction k with
  | zero =>
    intro l hl hv hg hi hs
    have e0 : RM (goB tb tb2 n n2 ar) (whB what n2) n2 0 l = if whB what n2 l = true then [l] else [] := rfl
    rw [e0, if_pos ((wh_iff hwh).mpr ⟨hi, hs rfl⟩)]
    rfl
  | succ k ih =>
    intro l hl hv hg hi hs
    rw [CM_s, RM_s]
    refine flF_congr _ _ (fun v _ hv2 => ?_)
    rw [go_q hw hw2 (by omega), hg, Bool.true_and]
    have vm : ∀ u ∈ l ++ [v], u < n2 := fun u hu => by
      rcases List.mem_append.mp hu with z | z
      · exact hv u z
      · rw [List.mem_singleton] at z; omega
    have le : (l ++ [v]).length = l.length + 1 := by rw [List.length_append]; rfl
    by_cases hsk : skp (decide (what = 1 ∨ what = 3)) (decide (what = 2 ∨ what = 3)) n2 k l v = true
    · rw [if_pos hsk]
      -- nothing of what is passed over is a map of this what
      have none : ∀ x, x ∉ RM (goB tb tb2 n n2 ar) (whB what n2) n2 k (l ++ [v]) := fun x hx => by
        obtain ⟨h1, s, h2, h3, h4⟩ := RM_ext k (l ++ [v]) x hx
        rw [wh_iff hwh] at h1
        unfold skp at hsk
        rw [Bool.or_eq_true, Bool.and_eq_true, Bool.and_eq_true, decide_eq_true_eq, decide_eq_true_eq, decide_eq_true_eq, decide_eq_true_eq] at hsk
        rcases hsk with ⟨q1, q2⟩ | ⟨q1, q2⟩
        · have := h1.1 q1
          rw [h2, List.nodup_append] at this
          exact (nodup_snoc.mp this.1).2 q2
        · have h5 := bc_us s (l ++ [v]) (fun u hu => by have := h4 u hu; omega)
          have h6 := h1.2 q1
          rw [← h2, h6, bc_full n2 (by omega)] at h5
          omega
      have : RM (goB tb tb2 n n2 ar) (whB what n2) n2 k (l ++ [v]) = [] := by
        cases hc : RM (goB tb tb2 n n2 ar) (whB what n2) n2 k (l ++ [v]) with
        | nil => rfl
        | cons x xs => exact absurd (by rw [hc]; simp) (none x)
      rw [this]
      by_cases z : qB tb tb2 n n2 ar (l ++ [v]) = true
      · rw [if_pos z]
      · rw [if_neg z]
    · rw [if_neg hsk]
      by_cases z : qB tb tb2 n n2 ar (l ++ [v]) = true
      · rw [if_pos z, if_pos z]
        refine ih (l ++ [v]) (by omega) vm (by rw [go_q hw hw2 (by omega), hg, z]; rfl) (fun q => ?_) (fun k0 q => ?_)
        · refine nodup_snoc.mpr ⟨hi q, fun y => hsk ?_⟩
          unfold skp
          rw [decide_eq_true q, decide_eq_true y]
          rfl
        · have y : ¬ k < n2 - bc (usB (l ++ [v])) 7 := fun y => hsk (by
            unfold skp
            rw [decide_eq_true q, decide_eq_true y, Bool.true_and, Bool.or_true])
          refine bc_all n2 (by omega) _ ?_ (by omega)
          -- its bits are of elements there
          have hb : ∀ j, (usB (l ++ [v])).testBit j = true → j < n2 := fun j hj => vm j (us_bit.mp hj).2
          by_cases x : usB (l ++ [v]) < 2 ^ n2
          · exact x
          · exfalso
            obtain ⟨j, j1, j2⟩ := Nat.exists_ge_and_testBit_of_ge_two_pow (n := n2) (x := usB (l ++ [v])) (by omega)
            have := hb j j2
            omega
      · rw [if_neg z, if_neg z]
theorem RM_len {P W : List Nat → Bool} (hn2 : n2 ≤ 7) : ∀ (k : Nat) (l : List Nat), (RM P W n2 k l).length ≤ 7 ^ k
  | 0, l => by
    have e0 : RM P W n2 0 l = if W l = true then [l] else [] := rfl
    rw [e0]
    by_cases q : W l = true
    · rw [if_pos q]; exact Nat.le_refl _
    · rw [if_neg q]; exact Nat.zero_le _
  | k + 1, l => by
    rw [RM_s, flF_len]
    refine Nat.le_trans (sumF_le _ _ (g := fun _ => 7 ^ k) (fun v _ _ => ?_)) ?_
    · by_cases q : P (l ++ [v]) = true
      · rw [if_pos q]; exact RM_len hn2 k (l ++ [v])
      · rw [if_neg q]; exact Nat.zero_le _
    · rw [sumF_const, Nat.pow_succ, Nat.mul_comm]
      exact Nat.mul_le_mul_left _ hn2
end EQ
