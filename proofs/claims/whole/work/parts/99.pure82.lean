/-! maps: the class's search -/
theorem flF_split {α : Type} {f : Nat → List α} : ∀ (a b v : Nat), flF f (a + b) v = flF f a v ++ flF f b (v + a)
  | 0, b, v => by rw [Nat.zero_add, Nat.add_zero]; rfl
  | a + 1, b, v => by rw [show a + 1 + b = (a + b) + 1 by omega, flF_s, flF_split a b (v + 1), flF_s, List.append_assoc, show v + 1 + a = v + (a + 1) by omega]
theorem LN_snoc {h : HF} {c v : Nat} {l : List Nat} (hl : LN h c l) : LN (stp h c l.length (v : Int)) c (l ++ [v]) := by
  intro i hi
  rw [List.length_append, List.length_singleton] at hi
  by_cases q : i = l.length
  · subst q
    rw [stp_eq, gd_eq]
  · rw [stp_ne (by omega), gd_lt (by omega)]
    exact hl i (by omega)
def ckB (tb tb2 : Nat → Nat → Int) (n n2 : Nat) (ar : List Nat) (l : List Nat) (q : Nat × Nat × Nat) : Bool := decide (vl tb2 n2 ar q.1 (l.getD q.2.1 0) (l.getD q.2.2 0) = l.getD (vl tb n ar q.1 q.2.1 q.2.2) 0)
/-- the class's test of a line: the cells whose greatest element is its last -/
def qB (tb tb2 : Nat → Nat → Int) (n n2 : Nat) (ar : List Nat) (l : List Nat) : Bool := (gE tb n ar (l.length - 1)).all (ckB tb tb2 n n2 ar l)
/-- which values the class passes over -/
def skp (inj sur : Bool) (n2 k : Nat) (l : List Nat) (v : Nat) : Bool := (inj && decide (v ∈ l)) || (sur && decide (k < n2 - bc (usB (l ++ [v])) 7))
/-- the maps that the class finds, from a line on, k places before the end -/
def CM (Q : List Nat → Bool) (sk : Nat → List Nat → Nat → Bool) (n2 : Nat) : Nat → List Nat → List (List Nat)
  | 0, l => [l]
  | k + 1, l => flF (fun v => if sk k l v = true then [] else if Q (l ++ [v]) = true then CM Q sk n2 k (l ++ [v]) else []) n2 0
theorem CM_s {Q : List Nat → Bool} {sk : Nat → List Nat → Nat → Bool} {n2 k : Nat} {l : List Nat} : CM Q sk n2 (k + 1) l = flF (fun v => if sk k l v = true then [] else if Q (l ++ [v]) = true then CM Q sk n2 k (l ++ [v]) else []) n2 0 := rfl
def Fnd (Ls : List (List Nat)) (c : Nat) (w : Int) (n : Nat) (h : HF) : Prop := (∃ (j : Nat) (x : List Nat), Ls[j]? = some x ∧ w = ((c + j : Nat) : Int) ∧ h 98 7 = 1 ∧ h 98 1 = (cdR x 0 0 n : Int)) ∨ ((w < 0 ∨ ((c + Ls.length : Nat) : Int) ≤ w) ∧ h 98 7 = 0 ∧ h 98 0 = ((c + Ls.length : Nat) : Int))
theorem Fnd_left {Ls Ms : List (List Nat)} {c n : Nat} {w : Int} {h : HF} (hq : ∃ (j : Nat) (x : List Nat), Ls[j]? = some x ∧ w = ((c + j : Nat) : Int) ∧ h 98 7 = 1 ∧ h 98 1 = (cdR x 0 0 n : Int)) : Fnd (Ls ++ Ms) c w n h := by
  obtain ⟨j, x, h1, h2⟩ := hq
  have hj : j < Ls.length := by
    by_cases z : j < Ls.length
    · exact z
    · rw [List.getElem?_eq_none (by omega)] at h1; cases h1
  exact Or.inl ⟨j, x, by rw [List.getElem?_append_left hj]; exact h1, h2⟩
theorem Fnd_right {Ls Ms : List (List Nat)} {c n : Nat} {w : Int} {h : HF} (hF : Fnd Ms (c + Ls.length) w n h) : Fnd (Ls ++ Ms) c w n h := by
  rcases hF with ⟨j, x, h1, h2, h3⟩ | ⟨h1, h2, h3⟩
  · refine Or.inl ⟨Ls.length + j, x, ?_, by omega, h3⟩
    rw [List.getElem?_append_right (by omega), show Ls.length + j - Ls.length = j by omega]
    exact h1
  · refine Or.inr ⟨?_, h2, ?_⟩
    · rw [List.length_append]; omega
    · rw [List.length_append, h3]; omega
section EX
variable {F n n2 A B : Nat} {ar : List Nat} {tb tb2 : Nat → Nat → Int} {inj sur : Bool} {w : Int}
def EXc (h : HF) (A B n n2 : Nat) (ar : List Nat) (tb tb2 : Nat → Nat → Int) (inj sur : Bool) (w : Int) : Prop := (h 98 2 = (A : Int) ∧ h 98 3 = (B : Int) ∧ h 98 4 = w ∧ h 98 5 = bi inj ∧ h 98 6 = bi sur) ∧ RepC h A n ar tb ∧ RepC h B n2 ar tb2 ∧ SRT h tb n ar n
theorem EX_keep {h h' : HF} (hA : 117 ≤ A) (hB : 117 ≤ B) (e : ∀ c i, c ≠ 99 → (c ≠ 98 ∨ (i ≠ 0 ∧ i ≠ 1 ∧ i ≠ 7)) → h' c i = h c i) (hE : EXc h A B n n2 ar tb tb2 inj sur w) : EXc h' A B n n2 ar tb tb2 inj sur w := by
  obtain ⟨⟨a1, a2, a3, a4, a5⟩, b1, b2, b3, b4⟩ := hE
  exact ⟨⟨by rw [e _ _ (by omega) (by omega)]; exact a1, by rw [e _ _ (by omega) (by omega)]; exact a2, by rw [e _ _ (by omega) (by omega)]; exact a3, by rw [e _ _ (by omega) (by omega)]; exact a4, by rw [e _ _ (by omega) (by omega)]; exact a5⟩, RepC_keep (fun i k hi => e _ _ (by omega) (by omega)) b1, RepC_keep (fun i k hi => e _ _ (by omega) (by omega)) b2, AR_keep (fun c i z => e _ _ (by omega) (by omega)) b3, fun q hq => by rw [e _ _ (by omega) (by omega)]; exact b4 q hq⟩
theorem kc_L {h : HF} {l : List Nat} {e : Nat} (hA : 117 ≤ A) (hB : 117 ≤ B) (hkB : kt B = 0 + 3) (hw : WF n ar tb) (hw2 : WF n2 ar tb2) (hE : EXc h A B n n2 ar tb tb2 inj sur w) (hL : LN h 99 l) (hl : l.length = e + 1) (hen : e < n) (hv : ∀ i, i < l.length → l.getD i 0 < n2) {k86 k78 : HF → RO} : ∀ (R : List (Nat × Nat × Nat)) (i N : Nat), (flF (gE tb n ar) (e + 1) 0).drop i = R → i ≤ (flF (gE tb n ar) (e + 1) 0).length → (∀ q ∈ R, q ∈ gE tb n ar e) → R.length + 1 ≤ N → LX7_keepsCells_17 F 98 (e : Int) k86 k78 N (i : Int) h = if R.all (ckB tb tb2 n n2 ar l) = true then k86 h else k78 h := by
  have hn := hw.1
  have h4 : h 104 e = ((flF (gE tb n ar) (e + 1) 0).length : Int) := hE.2.2.2.2 e hen
  have l196 : (flF (gE tb n ar) (e + 1) 0).length ≤ 196 := by
    have h1 := gE_len (tb := tb) (n := n) hw.2.2.1 (e + 1)
    have h2 := sto_le hn.2 hw.2.2.1 ar.length (Nat.le_refl _)
    have := hw.2.1
    omega
  have pre : flF (gE tb n ar) n 0 = flF (gE tb n ar) (e + 1) 0 ++ flF (gE tb n ar) (n - (e + 1)) (0 + (e + 1)) := by
    rw [← flF_split, show e + 1 + (n - (e + 1)) = n by omega]
  intro R
  induction R with
  | nil =>
    intro i N hR hi hm hN
    obtain ⟨N, rfl⟩ : ∃ M, N = M + 1 := ⟨N - 1, by omega⟩
    have := List.drop_eq_nil_iff.mp hR
    rw [LX7_keepsCells_17, rd104 (by omega), h4, if_neg (by omega)]
    rfl
  | cons q R ih =>
    intro i N hR hi hm hN
    obtain ⟨N, rfl⟩ : ∃ M, N = M + 1 := ⟨N - 1, by omega⟩
    have hi2 : i < (flF (gE tb n ar) (e + 1) 0).length := by
      by_cases z : i < (flF (gE tb n ar) (e + 1) 0).length
      · exact z
      · rw [List.drop_eq_nil_of_le (by omega)] at hR; cases hR
    have hq : (flF (gE tb n ar) (e + 1) 0)[i]? = some q := by
      have := List.getElem?_drop (xs := flF (gE tb n ar) (e + 1) 0) (i := i) (j := 0)
      rw [hR, Nat.add_zero] at this
      exact this.symm
    have hq2 : (flF (gE tb n ar) n 0)[i]? = some q := by rw [pre, List.getElem?_append_left hi2]; exact hq
    obtain ⟨r1, r2, r3, r4⟩ := hE.2.2.2.1 i q hq2
    obtain ⟨m1, m2, m3, m4⟩ := mem_gE.mp (hm q (by simp))
    have mx : vl tb n ar q.1 q.2.1 q.2.2 ≤ e ∧ q.2.1 ≤ e ∧ q.2.2 ≤ e := by unfold mxC at m4; omega
    have hR' : (flF (gE tb n ar) (e + 1) 0).drop (i + 1) = R := by
      rw [← List.drop_drop, hR]; rfl
    simp only [List.length_cons] at hN
    rw [LX7_keepsCells_17, rd104 (by omega), h4, if_pos (by omega), zgd_at hE.1.2.1, rd10x (by omega) (by omega), rd10x (by omega) (by omega), show h (98 + 2) i = (q.1 : Int) from r1, show h (98 + 3) i = (q.2.1 : Int) from r2, rd99 (by omega), hL _ (by omega), rd10x (by omega) (by omega), show h (98 + 4) i = (q.2.2 : Int) from r3, rd99 (by omega), hL _ (by omega), cval hkB hw2 hE.2.2.1 m1 (hv _ (by omega)) (hv _ (by omega)), zbd_some, rd10x (by omega) (by omega), show h (98 + 5) i = _ from r4, rd99 (by omega), hL _ (by omega), zlet_eq, wr_s (by omega), ih (i + 1) N hR' (by omega) (fun q' h' => hm q' (by simp [h'])) (by omega), List.all_cons]
    unfold ckB
    by_cases z : vl tb2 n2 ar q.1 (l.getD q.2.1 0) (l.getD q.2.2 0) = l.getD (vl tb n ar q.1 q.2.1 q.2.2) 0
    · rw [if_pos (by omega), decide_eq_true z, Bool.true_and]
    · rw [if_neg (by omega), decide_eq_false z, Bool.false_and, if_neg (by decide)]
theorem keepsCells_eq {h : HF} {l : List Nat} {e : Nat} (hF : 200 ≤ F) (hA : 117 ≤ A) (hB : 117 ≤ B) (hkB : kt B = 0 + 3) (hw : WF n ar tb) (hw2 : WF n2 ar tb2) (hE : EXc h A B n n2 ar tb tb2 inj sur w) (hL : LN h 99 l) (hl : l.length = e + 1) (hen : e < n) (hv : ∀ i, i < l.length → l.getD i 0 < n2) : fX7_keepsCells F 98 (e : Int) h = some (bi (qB tb tb2 n n2 ar l), h) := by
  have hn := hw.1
  have sn1 : flF (gE tb n ar) (e + 1) 0 = flF (gE tb n ar) e 0 ++ gE tb n ar e := by rw [flF_snoc, Nat.zero_add]
  have l196 : (flF (gE tb n ar) (e + 1) 0).length ≤ 196 := by
    have h1 := gE_len (tb := tb) (n := n) hw.2.2.1 (e + 1)
    have h2 := sto_le hn.2 hw.2.2.1 ar.length (Nat.le_refl _)
    have := hw.2.1
    omega
  have len : (gE tb n ar e).length ≤ 196 := by rw [sn1, List.length_append] at l196; omega
  have L := kc_L (F := F) hA hB hkB hw hw2 hE hL hl hen hv (k86 := fun h => zrz 1 h) (k78 := fun h => zrz 0 h) (gE tb n ar e) (flF (gE tb n ar) e 0).length F (by rw [sn1, List.drop_left]) (by rw [sn1, List.length_append]; omega) (fun q hq => hq) (by omega)
  have eq0 : fX7_keepsCells F 98 (e : Int) h = LX7_keepsCells_17 F 98 (e : Int) (fun h => zrz 1 h) (fun h => zrz 0 h) F ((flF (gE tb n ar) e 0).length : Int) h := by
    unfold fX7_keepsCells
    simp only [zjn_eq]
    by_cases z : e = 0
    · subst z; rw [if_pos (show ((0 : Nat) : Int) = 0 from rfl)]; rfl
    · rw [if_neg (by omega), wr_id ⟨by omega, by omega⟩, show (e : Int) - 1 = ((e - 1 : Nat) : Int) by omega, rd104 (by omega), hE.2.2.2.2 (e - 1) (by omega), show e - 1 + 1 = e by omega]
  rw [eq0, L]
  unfold qB
  rw [hl, Nat.add_sub_cancel]
  cases (gE tb n ar e).all (ckB tb tb2 n n2 ar l) <;> rfl
theorem meet_eq {h : HF} {l : List Nat} {c : Nat} (hF : 9 ≤ F) (hn7 : n ≤ 7) (hE : EXc h A B n n2 ar tb tb2 inj sur w) (hL : LN h 99 l) (hl : l.length = n) (hv : ∀ i, i < n → l.getD i 0 < 7) (h0 : h 98 0 = (c : Int)) (h7 : h 98 7 = 0) (hc : c < 900001) (hw : w < 0 ∨ (c : Int) ≤ w) : ∃ h', fX7_meet F 98 h = some (0, h') ∧ Fnd [l] c w n h' ∧ ∀ c i, (c ≠ 98 ∨ (i ≠ 0 ∧ i ≠ 1 ∧ i ≠ 7)) → h' c i = h c i := by
  unfold fX7_meet
  rw [zgf_eq, h0, zgf_eq, hE.1.2.2.1, zjn_eq]
  by_cases q : (c : Int) = w
  · rw [if_pos q, zgd_at hE.1.1, zgf_eq, hE.2.1.1, show fX11_encode F (98 + 1) (n : Int) h = some (((cdR l 0 0 n : Nat) : Int), h) from encode_eq hF k99 hL hl hn7 hv, zbd_some, zpf_eq]
    refine ⟨stp (stp (stp h 98 1 (cdR l 0 0 n : Int)) 98 7 1) 98 0 ((c + 1 : Nat) : Int), ?_, Or.inl ⟨0, l, rfl, by omega, by rw [stp_ne (by omega), stp_eq], by rw [stp_ne (by omega), stp_ne (by omega), stp_eq]⟩, fun c i z => by rw [stp_ne (by omega), stp_ne (by omega), stp_ne (by omega)]⟩
    unfold zpz
    rw [if_pos (Or.inr rfl)]
    show zgf (stp (stp h 98 1 (cdR l 0 0 n : Int)) 98 7 1) 98 0 (fun x3 => zpf (stp (stp h 98 1 (cdR l 0 0 n : Int)) 98 7 1) 98 0 (wr (x3 + 1)) fun h => some (0, h)) = _
    rw [zgf_eq, stp_ne (by omega), stp_ne (by omega), h0, wr_s (by omega), zpf_eq]
  · rw [if_neg q]
    refine ⟨stp h 98 0 ((c + 1 : Nat) : Int), ?_, Or.inr ⟨by simp only [List.length_cons, List.length_nil]; omega, by rw [stp_ne (by omega)]; exact h7, by rw [stp_eq]; rfl⟩, fun c i z => stp_ne (by omega)⟩
    show zgf h 98 0 (fun x3 => zpf h 98 0 (wr (x3 + 1)) fun h => some (0, h)) = _
    rw [zgf_eq, h0, wr_s (by omega), zpf_eq]
/-- the class's search from a line on -/
theorem ext_c (hF : 200 ≤ F) (hA : 117 ≤ A) (hB : 117 ≤ B) (hkB : kt B = 0 + 3) (hw1 : WF n ar tb) (hw2 : WF n2 ar tb2) : ∀ (k D : Nat) (l : List Nat) (c : Nat) (h : HF), k + 1 ≤ D → l.length + k = n → (∀ i, i < l.length → l.getD i 0 < n2) → EXc h A B n n2 ar tb tb2 inj sur w → LN h 99 l → h 98 0 = (c : Int) → h 98 7 = 0 → c + (CM (qB tb tb2 n n2 ar) (skp inj sur n2) n2 k l).length ≤ 900000 → (w < 0 ∨ (c : Int) ≤ w) → ∃ h', fX7_extend F D 98 (l.length : Int) (usB l : Int) h = some (0, h') ∧ Fnd (CM (qB tb tb2 n n2 ar) (skp inj sur n2) n2 k l) c w n h' ∧ (∀ i, i < l.length → h' 99 i = h 99 i) ∧ ∀ c i, c ≠ 99 → (c ≠ 98 ∨ (i ≠ 0 ∧ i ≠ 1 ∧ i ≠ 7)) → h' c i = h c i := by
  have hn := hw1.1
  have hn2 := hw2.1
  intro k
  induction k with
  | zero =>
    intro D l c h hD hl hv hE hL h0 h7 hc hw
    obtain ⟨D, rfl⟩ : ∃ M, D = M + 1 := ⟨D - 1, by omega⟩
    have hc' : c + 1 ≤ 900000 := hc
    obtain ⟨h', x1, x2, x3⟩ := meet_eq (F := F) (c := c) (by omega) hn.2 hE hL (by omega) (fun i hi => by have := hv i (by omega); omega) h0 h7 (by omega) hw
    refine ⟨h', ?_, x2, fun i hi => x3 _ _ (by omega), fun c i z y => x3 c i y⟩
    rw [fX7_extend, zgd_at hE.1.1, zgf_eq, hE.2.1.1, if_neg (by omega), x1, zbd_some]
  | succ k ih =>
    intro D l c h hD hl hv hE hL h0 h7 hc hw
    obtain ⟨D, rfl⟩ : ∃ M, D = M + 1 := ⟨D - 1, by omega⟩
    have hl7 : l.length < 7 := by omega
    -- the loop over values
    have loop : ∀ (m v N c : Nat) (h : HF), v + m = n2 → m + 1 ≤ N → EXc h A B n n2 ar tb tb2 inj sur w → LN h 99 l → h 98 0 = (c : Int) → h 98 7 = 0 → c + (flF (fun v => if skp inj sur n2 k l v = true then [] else if qB tb tb2 n n2 ar (l ++ [v]) = true then CM (qB tb tb2 n n2 ar) (skp inj sur n2) n2 k (l ++ [v]) else []) m v).length ≤ 900000 → (w < 0 ∨ (c : Int) ≤ w) → ∃ h', LX7_extend_18 F (fX7_extend F D) 98 (l.length : Int) (usB l : Int) (fun h => some (0, h)) N (v : Int) h = some (0, h') ∧ Fnd (flF (fun v => if skp inj sur n2 k l v = true then [] else if qB tb tb2 n n2 ar (l ++ [v]) = true then CM (qB tb tb2 n n2 ar) (skp inj sur n2) n2 k (l ++ [v]) else []) m v) c w n h' ∧ (∀ i, i < l.length → h' 99 i = h 99 i) ∧ ∀ c i, c ≠ 99 → (c ≠ 98 ∨ (i ≠ 0 ∧ i ≠ 1 ∧ i ≠ 7)) → h' c i = h c i := by
      intro m
      induction m with
      | zero =>
        intro v N c h hv' hN hE hL h0 h7 hc hw
        obtain ⟨N, rfl⟩ : ∃ M, N = M + 1 := ⟨N - 1, by omega⟩
        refine ⟨h, ?_, Or.inr ⟨by simpa [flF] using hw, h7, by simpa [flF] using h0⟩, fun _ _ => rfl, fun _ _ _ _ => rfl⟩
        rw [LX7_extend_18, zgd_at hE.1.2.1, zgf_eq, hE.2.2.1.1, if_neg (by omega)]
      | succ m ihm =>
        intro v N c h hv' hN hE hL h0 h7 hc hw
        obtain ⟨N, rfl⟩ : ∃ M, N = M + 1 := ⟨N - 1, by omega⟩
        have hv7 : v < 7 := by omega
        have us8 := us_lt l
        have us9 := us_lt (l ++ [v])
        have ew : wor (usB l : Int) (wshl 1 (v : Int)) = (usB (l ++ [v]) : Int) := by
          rw [wshl_1 (by omega), wor_N (by omega) (by have := Nat.pow_lt_pow_right (a := 2) (by decide) hv7; omega), us_snoc hv7]
        rw [flF_s] at hc ⊢
        rw [List.length_append] at hc
        -- one value is passed over, or tried
        have gv : fX7_give F (fX7_extend F D) 98 (l.length : Int) (v : Int) (usB l : Int) h = if skp inj sur n2 k l v = true then some (0, h) else (zbd (fX7_keepsCells F 98 (l.length : Int) (stp h 99 l.length (v : Int))) fun r13 h => if r13 = 0 then some (0, h) else (zbd (fX7_extend F D 98 ((l.length + 1 : Nat) : Int) (usB (l ++ [v]) : Int) h) fun _ h => some (0, h))) := by
          unfold fX7_give
          rw [ew]
          simp only [zjn_eq, zlet_eq]
          rw [zgd_at hE.1.1, zgf_eq, hE.2.1.1, wr_id (x := (n : Int) - 1) ⟨by omega, by omega⟩, wr_id (x := (n : Int) - 1 - (l.length : Int)) ⟨by omega, by omega⟩, show (n : Int) - 1 - (l.length : Int) = (k : Int) by omega, zgf_eq, hE.1.2.2.2.1, wr_s (by omega), zgf_eq, hE.1.2.2.2.2, zgd_at hE.1.2.1, zgf_eq, hE.2.2.1.1, bitCount_eq us9, zbd_some, wt99 hl7, wr_id (x := (n2 : Int) - (bc (usB (l ++ [v])) 7 : Int)) ⟨by have := bc_le (x := usB (l ++ [v])) 7; omega, by omega⟩]
          unfold skp
          cases inj with
          | true =>
            rw [if_neg (show ¬ bi true = 0 by decide), Bool.true_and]
            by_cases z : v ∈ l
            · rw [if_pos (by rw [us_snoc hv7, (us_same hv7).mpr z]), decide_eq_true z, Bool.true_or, if_pos rfl]
            · rw [if_neg (fun y => z ((us_same hv7).mp (by rw [← us_snoc hv7]; omega))), decide_eq_false z, Bool.false_or]
              cases sur with
              | true =>
                rw [if_neg (show ¬ bi true = 0 by decide), Bool.true_and]
                by_cases y : k < n2 - bc (usB (l ++ [v])) 7
                · rw [if_pos (by omega), decide_eq_true y, if_pos rfl]
                · rw [if_neg (by omega), decide_eq_false y, if_neg (by decide)]
              | false => rw [if_pos (show bi false = 0 from rfl), Bool.false_and, if_neg (by decide)]
          | false =>
            rw [if_pos (show bi false = 0 from rfl), Bool.false_and, Bool.false_or]
            cases sur with
            | true =>
              rw [if_neg (show ¬ bi true = 0 by decide), Bool.true_and]
              by_cases y : k < n2 - bc (usB (l ++ [v])) 7
              · rw [if_pos (by omega), decide_eq_true y, if_pos rfl]
              · rw [if_neg (by omega), decide_eq_false y, if_neg (by decide)]
            | false => rw [if_pos (show bi false = 0 from rfl), Bool.false_and, if_neg (by decide)]
        have st : LX7_extend_18 F (fX7_extend F D) 98 (l.length : Int) (usB l : Int) (fun h => some (0, h)) (N + 1) (v : Int) h = (zbd (if skp inj sur n2 k l v = true then some (0, h) else (zbd (fX7_keepsCells F 98 (l.length : Int) (stp h 99 l.length (v : Int))) fun r13 h => if r13 = 0 then some (0, h) else (zbd (fX7_extend F D 98 ((l.length + 1 : Nat) : Int) (usB (l ++ [v]) : Int) h) fun _ h => some (0, h)))) fun _ h => LX7_extend_18 F (fX7_extend F D) 98 (l.length : Int) (usB l : Int) (fun h => some (0, h)) N ((v + 1 : Nat) : Int) h) := by
          rw [LX7_extend_18, zgd_at hE.1.2.1, zgf_eq, hE.2.2.1.1, if_pos (by omega), zgf_eq, h7, if_pos rfl, gv]
          simp only [zlet_eq]
          rw [wr_s (by omega)]
        rw [st]
        cases hsk : skp inj sur n2 k l v with
        | true =>
          rw [hsk] at hc
          rw [if_pos rfl, if_pos rfl, List.nil_append, zbd_some]
          rw [if_pos rfl] at hc
          exact ihm (v + 1) N c h (by omega) (by omega) hE hL h0 h7 (by simpa using hc) hw
        | false =>
          rw [hsk, if_neg (by decide)] at hc
          rw [if_neg (by decide), if_neg (by decide)]
          have hE1 : EXc (stp h 99 l.length (v : Int)) A B n n2 ar tb tb2 inj sur w := EX_keep hA hB (fun c i z _ => stp_ne (Or.inl z)) hE
          have hL1 := LN_snoc (v := v) hL
          have hv1 : ∀ i, i < (l ++ [v]).length → (l ++ [v]).getD i 0 < n2 := fun i hi => by
            rw [List.length_append, List.length_singleton] at hi
            by_cases z : i = l.length
            · subst z; rw [gd_eq]; omega
            · rw [gd_lt (by omega)]; exact hv i (by omega)
          have kc := keepsCells_eq (F := F) (e := l.length) hF hA hB hkB hw1 hw2 hE1 hL1 (by rw [List.length_append]; rfl) (by omega) hv1
          rw [kc, zbd_some]
          cases hq : qB tb tb2 n n2 ar (l ++ [v]) with
          | false =>
            rw [hq, if_neg (by decide)] at hc
            rw [if_pos (show bi false = 0 from rfl), if_neg (by decide), List.nil_append, zbd_some]
            obtain ⟨h', y1, y2, y3, y4⟩ := ihm (v + 1) N c (stp h 99 l.length (v : Int)) (by omega) (by omega) hE1 (fun i hi => by rw [stp_ne (by omega)]; exact hL i hi) (by rw [stp_ne (by omega)]; exact h0) (by rw [stp_ne (by omega)]; exact h7) (by simpa using hc) hw
            exact ⟨h', y1, y2, fun i hi => by rw [y3 i hi, stp_ne (by omega)], fun c i z y => by rw [y4 c i z y, stp_ne (Or.inl z)]⟩
          | true =>
            rw [hq, if_pos rfl] at hc
            rw [if_neg (show ¬ bi true = 0 by decide), if_pos rfl]
            have le : (l ++ [v]).length = l.length + 1 := by rw [List.length_append]; rfl
            obtain ⟨h1, x1, x2, x3, x4⟩ := ih D (l ++ [v]) c (stp h 99 l.length (v : Int)) (by omega) (by omega) hv1 hE1 hL1 (by rw [stp_ne (by omega)]; exact h0) (by rw [stp_ne (by omega)]; exact h7) (by omega) hw
            rw [le] at x1 x3
            rw [x1, zbd_some, zbd_some]
            have k1 : ∀ i, i < l.length → h1 99 i = h 99 i := fun i hi => by rw [x3 i (by omega), stp_ne (by omega)]
            have k2 : ∀ c i, c ≠ 99 → (c ≠ 98 ∨ (i ≠ 0 ∧ i ≠ 1 ∧ i ≠ 7)) → h1 c i = h c i := fun c i z y => by rw [x4 c i z y, stp_ne (Or.inl z)]
            have hE2 : EXc h1 A B n n2 ar tb tb2 inj sur w := EX_keep hA hB k2 hE
            rcases x2 with x2 | ⟨x2, x5, x6⟩
            · -- it was met: the loop ends
              refine ⟨h1, ?_, Fnd_left x2, k1, k2⟩
              obtain ⟨_, _, _, _, m7, _⟩ := x2
              obtain ⟨N, rfl⟩ : ∃ M, N = M + 1 := ⟨N - 1, by omega⟩
              rw [LX7_extend_18, zgd_at hE2.1.2.1, zgf_eq, hE2.2.2.1.1, zgf_eq, m7, if_neg (show ¬ (1 : Int) = 0 by decide)]
              by_cases z : ((v + 1 : Nat) : Int) < (n2 : Int)
              · rw [if_pos z]
              · rw [if_neg z]
            · obtain ⟨h', y1, y2, y3, y4⟩ := ihm (v + 1) N (c + (CM (qB tb tb2 n n2 ar) (skp inj sur n2) n2 k (l ++ [v])).length) h1 (by omega) (by omega) hE2 (fun i hi => by rw [k1 i hi]; exact hL i hi) x6 x5 (by omega) x2
              exact ⟨h', y1, Fnd_right y2, fun i hi => by rw [y3 i hi, k1 i hi], fun c i z y => by rw [y4 c i z y, k2 c i z y]⟩
    rw [CM_s] at hc ⊢
    obtain ⟨h', y1, y2, y3, y4⟩ := loop n2 0 F c h (by omega) (by omega) hE hL h0 h7 hc hw
    refine ⟨h', ?_, y2, y3, y4⟩
    rw [fX7_extend, zgd_at hE.1.1, zgf_eq, hE.2.1.1, if_pos (by omega), zjn_eq]
    exact y1
end EX
