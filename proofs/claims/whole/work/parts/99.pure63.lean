/-! laws: reading on both sides at once; takes, faults -/
def LCell (S : Nat) : Prop := S = 78 ∨ S = 149 ∨ S = 157 ∨ S = 165 ∨ S = 173
theorem LCell_kl {S : Nat} (h : LCell S) : kl (S + 1) = 7 ∧ kl (S + 2) = 6 ∧ kl (S + 3) = 41 ∧ kl (S + 4) = 40 ∧ kl (S + 5) = 80 ∧ kl (S + 6) = 80 ∧ kl (S + 7) = 80 := by
  rcases h with rfl | rfl | rfl | rfl | rfl <;> decide +kernel
theorem LCell_far {S : Nat} (h : LCell S) : S = 78 ∨ (149 ≤ S ∧ S ≤ 173) := by unfold LCell at h; omega
/-- the text: its length, its signs -/
def HT (t : List Int) (m : Nat) : Prop := t.length ≤ 400 ∧ m ≤ 400 ∧ pl t m = t.length ∧ ∀ j, j < m → pl t j < t.length
theorem sn_lt {t : List Int} {m a : Nat} (hT : HT t m) (ha : a ≤ m) (h : sn t a ≠ -1) : a < m := by
  by_cases q : a = m
  · subst q
    exact absurd (by unfold sn; rw [hT.2.2.1]; exact bA_end (Nat.le_refl _)) h
  · omega
theorem pl_le {t : List Int} {m a : Nat} (hT : HT t m) (ha : a ≤ m) : pl t a ≤ 400 := by
  obtain ⟨h1, h2, h3, h4⟩ := hT
  by_cases q : a = m
  · subst q; omega
  · have := h4 a (by omega); omega
/-- both sides stand before sign a, without a fault -/
def RD (t : List Int) (m S : Nat) (hc hm : HF) (a : Nat) : Prop := (SG hc t m ∧ hc 86 4 = (S : Int) ∧ hc 86 3 = (a : Int) ∧ a ≤ m ∧ hc 86 0 = 0) ∧ (hm 181 31 = (t.length : Int) ∧ (∀ i, i < t.length → hm 182 i = t.getD i 0) ∧ hm 181 33 = sn t a ∧ hm 181 34 = (pl t a : Int) ∧ hm 181 32 = ((pl t a + 1 : Nat) : Int) ∧ hm 181 35 = 0)
theorem RD_c {t : List Int} {m S a : Nat} {hc hc' hm : HF} (e : ∀ c i, ((c = 86 ∧ (i = 0 ∨ i = 3 ∨ i = 4)) ∨ c = 87 ∨ c = 88) → hc' c i = hc c i) (hR : RD t m S hc hm a) : RD t m S hc' hm a := by
  obtain ⟨⟨c1, c2, c3, c4, c5⟩, hM⟩ := hR
  exact ⟨⟨fun j hj => by rw [e _ _ (by omega), e _ _ (by omega)]; exact c1 j hj, by rw [e _ _ (by omega)]; exact c2, by rw [e _ _ (by omega)]; exact c3, c4, by rw [e _ _ (by omega)]; exact c5⟩, hM⟩
theorem RD_m {t : List Int} {m S a : Nat} {hc hm hm' : HF} (e : ∀ c i, (c = 182 ∨ (c = 181 ∧ 31 ≤ i ∧ i ≤ 35)) → hm' c i = hm c i) (hR : RD t m S hc hm a) : RD t m S hc hm' a := by
  obtain ⟨hC, m1, m2, m3, m4, m5, m6⟩ := hR
  exact ⟨hC, by rw [e _ _ (by omega)]; exact m1, fun i hi => by rw [e _ _ (by omega)]; exact m2 i hi, by rw [e _ _ (by omega)]; exact m3, by rw [e _ _ (by omega)]; exact m4, by rw [e _ _ (by omega)]; exact m5, by rw [e _ _ (by omega)]; exact m6⟩
/-- one sign further -/
theorem adv {F : Nat} {t : List Int} {m S a : Nat} {hc hm : HF} (hF : 402 ≤ F) (hT : HT t m) (ha : a < m) (hR : RD t m S hc hm a) : ∃ hm', fX12_nextSign F 181 hm = some (0, hm') ∧ RD t m S (stp hc 86 3 ((a + 1 : Nat) : Int)) hm' (a + 1) ∧ ∀ c i, (c ≠ 181 ∨ (i ≠ 32 ∧ i ≠ 33 ∧ i ≠ 34)) → hm' c i = hm c i := by
  obtain ⟨⟨c1, c2, c3, c4, c5⟩, m1, m2, m3, m4, m5, m6⟩ := hR
  have hp := hT.2.2.2 a ha
  obtain ⟨h', x1, x2, x3, x4, x5⟩ := next_eq (F := F) hF hT.1 (show pl t a + 1 ≤ t.length by omega) m5 m1 m2
  refine ⟨h', x1, ⟨⟨fun j hj => by rw [stp_ne (by omega), stp_ne (by omega)]; exact c1 j hj, by rw [stp_ne (by omega)]; exact c2, stp_eq _ _ _ _, by omega, by rw [stp_ne (by omega)]; exact c5⟩, by rw [x5 _ _ (by omega)]; exact m1, fun i hi => by rw [x5 _ _ (by omega)]; exact m2 i hi, x2, x3, x4, by rw [x5 _ _ (by omega)]; exact m6⟩, x5⟩
theorem takes2 {F : Nat} {t : List Int} {m S a : Nat} {hc hm : HF} {b : Int} (hF : 402 ≤ F) (hT : HT t m) (hb : b ≠ -1) (hR : RD t m S hc hm a) : (sn t a = b ∧ ∃ hm', fX10_takes F 86 b hc = some (1, stp hc 86 3 ((a + 1 : Nat) : Int)) ∧ fX12_takes F 181 b hm = some (1, hm') ∧ RD t m S (stp hc 86 3 ((a + 1 : Nat) : Int)) hm' (a + 1) ∧ ∀ c i, (c ≠ 181 ∨ (i ≠ 32 ∧ i ≠ 33 ∧ i ≠ 34)) → hm' c i = hm c i) ∨ (sn t a ≠ b ∧ fX10_takes F 86 b hc = some (0, hc) ∧ fX12_takes F 181 b hm = some (0, hm)) := by
  have hR0 := hR
  obtain ⟨⟨c1, c2, c3, c4, c5⟩, m1, m2, m3, m4, m5, m6⟩ := hR
  have h4 := hT.2.1
  have eC : fX10_takes F 86 b hc = if sn t a = b then some (1, stp hc 86 3 ((a + 1 : Nat) : Int)) else some (0, hc) := by
    unfold fX10_takes
    simp only [zgf, zpf]
    rw [c3, rd87 (by omega), (c1 a c4).1, wr_s (by omega)]
    rfl
  have eM : fX12_takes F 181 b hm = if sn t a = b then (zbd (fX12_nextSign F 181 hm) fun _ h => some (1, h)) else some (0, hm) := by
    unfold fX12_takes
    simp only [zgf, zjn_eq]
    rw [m6, if_pos rfl, m3]
    by_cases q : sn t a = b
    · rw [if_pos q, if_pos q, if_neg (by decide)]
      rfl
    · rw [if_neg q, if_neg q, if_pos trivial]
      rfl
  rw [eC, eM]
  by_cases q : sn t a = b
  · refine Or.inl ⟨q, ?_⟩
    obtain ⟨h', x1, x2, x3⟩ := adv (F := F) hF hT (sn_lt hT c4 (by rw [q]; exact hb)) hR0
    refine ⟨h', if_pos q, ?_, x2, x3⟩
    rw [if_pos q, x1, zbd_some]
  · exact Or.inr ⟨q, if_neg q, if_neg q⟩
/-- both sides have the same fault -/
def Er (hc hm : HF) : Prop := ∃ k p : Nat, 1 ≤ k ∧ k ≤ 4 ∧ p ≤ 400 ∧ hc 86 0 = (k : Int) ∧ hc 86 1 = (p : Int) ∧ hm 181 35 = (k : Int) ∧ hm 181 36 = (p : Int)
theorem Er_keep {hc hc' hm hm' : HF} (e1 : hc' 86 0 = hc 86 0) (e2 : hc' 86 1 = hc 86 1) (e3 : hm' 181 35 = hm 181 35) (e4 : hm' 181 36 = hm 181 36) (h : Er hc hm) : Er hc' hm' := by
  obtain ⟨k, p, h1, h2, h3, h4, h5, h6, h7⟩ := h
  exact ⟨k, p, h1, h2, h3, by rw [e1]; exact h4, by rw [e2]; exact h5, by rw [e3]; exact h6, by rw [e4]; exact h7⟩
theorem Er_ne {hc hm : HF} (h : Er hc hm) : ¬ hm 181 35 = 0 := by
  obtain ⟨k, p, h1, h2, h3, h4, h5, h6, h7⟩ := h
  omega
theorem wrong_m {F : Nat} {k : Int} {hm : HF} (h : hm 181 35 = 0) : fX12_wrong F 181 k hm = some (0, stp (stp hm 181 35 k) 181 36 (hm 181 34)) := by
  unfold fX12_wrong
  simp only [zgf, zpf, zjn_eq]
  rw [h, if_pos rfl, stp_ne (by omega)]
theorem fail2 {F : Nat} {t : List Int} {m S a k : Nat} {hc hm : HF} (hT : HT t m) (hk : 1 ≤ k ∧ k ≤ 4) (hR : RD t m S hc hm a) : ∃ hc' hm', fX10_failHere F 86 (k : Int) hc = some (0, hc') ∧ fX12_wrong F 181 (k : Int) hm = some (0, hm') ∧ Er hc' hm' ∧ (∀ c i, (c ≠ 86 ∨ (i ≠ 0 ∧ i ≠ 1)) → hc' c i = hc c i) ∧ ∀ c i, (c ≠ 181 ∨ (i ≠ 35 ∧ i ≠ 36)) → hm' c i = hm c i := by
  obtain ⟨⟨c1, c2, c3, c4, c5⟩, m1, m2, m3, m4, m5, m6⟩ := hR
  have h4 := hT.2.1
  refine ⟨stp (stp hc 86 0 (k : Int)) 86 1 (pl t a : Int), stp (stp hm 181 35 (k : Int)) 181 36 (pl t a : Int), ?_, by rw [wrong_m m6, m4], ⟨k, pl t a, hk.1, hk.2, pl_le hT c4, by rw [stp_ne (by omega), stp_eq], stp_eq _ _ _ _, by rw [stp_ne (by omega), stp_eq], stp_eq _ _ _ _⟩, fun c i z => by rw [stp_ne (by omega), stp_ne (by omega)], fun c i z => by rw [stp_ne (by omega), stp_ne (by omega)]⟩
  unfold fX10_failHere fX10_failAt
  simp only [zgf, zpf]
  rw [c3, rd88 (by omega), (c1 a c4).2]
  rfl
theorem takes_err {F : Nat} {b : Int} {hm : HF} (h : ¬ hm 181 35 = 0) : fX12_takes F 181 b hm = some (0, hm) := by
  unfold fX12_takes
  simp only [zgf, zjn_eq]
  rw [if_neg h, if_pos trivial]
  rfl
theorem wrong_err {F : Nat} {k : Int} {hm : HF} (h : ¬ hm 181 35 = 0) : fX12_wrong F 181 k hm = some (0, hm) := by
  unfold fX12_wrong
  simp only [zgf, zjn_eq]
  rw [if_neg h]
theorem must_err {F : Nat} {b : Int} {hm : HF} (h : ¬ hm 181 35 = 0) : fX12_must F 181 b hm = some (0, hm) := by
  unfold fX12_must
  rw [takes_err h, zbd_some]
  simp only [zjn_eq]
  rw [if_pos trivial, wrong_err h, zbd_some]
theorem term_err {F D : Nat} {w : Int} {hm : HF} (h : ¬ hm 181 35 = 0) : fX12_term F (D + 1) 181 w hm = some (0, hm) := by
  rw [fX12_term]
  show (if hm 181 35 = 0 then _ else _) = _
  rw [if_neg h]
/-- must: the class takes the sign, or it is a fault on both sides -/
theorem must2 {F : Nat} {t : List Int} {m S a : Nat} {hc hm : HF} {b : Int} (hF : 402 ≤ F) (hT : HT t m) (hb : b ≠ -1) (hR : RD t m S hc hm a) : (∃ hm', fX10_takes F 86 b hc = some (1, stp hc 86 3 ((a + 1 : Nat) : Int)) ∧ fX12_must F 181 b hm = some (0, hm') ∧ RD t m S (stp hc 86 3 ((a + 1 : Nat) : Int)) hm' (a + 1) ∧ ∀ c i, (c ≠ 181 ∨ (i ≠ 32 ∧ i ≠ 33 ∧ i ≠ 34)) → hm' c i = hm c i) ∨ (fX10_takes F 86 b hc = some (0, hc) ∧ ∃ hc' hm', fX10_failHere F 86 1 hc = some (0, hc') ∧ fX12_must F 181 b hm = some (0, hm') ∧ Er hc' hm' ∧ (∀ c i, (c ≠ 86 ∨ (i ≠ 0 ∧ i ≠ 1)) → hc' c i = hc c i) ∧ ∀ c i, (c ≠ 181 ∨ (i ≠ 35 ∧ i ≠ 36)) → hm' c i = hm c i) := by
  rcases takes2 (F := F) hF hT hb hR with ⟨_, hm', x1, x2, x3, x4⟩ | ⟨_, x1, x2⟩
  · refine Or.inl ⟨hm', x1, ?_, x3, x4⟩
    unfold fX12_must
    rw [x2, zbd_some]
    simp only [zjn_eq]
    rw [if_neg (by decide)]
  · obtain ⟨hc', hm', y1, y2, y3, y4, y5⟩ := fail2 (F := F) (k := 1) hT (by omega) hR
    refine Or.inr ⟨x1, hc', hm', y1, ?_, y3, y4, y5⟩
    unfold fX12_must
    rw [x2, zbd_some]
    simp only [zjn_eq]
    rw [if_pos trivial]
    show zbd (fX12_wrong F 181 ((1 : Nat) : Int) hm) _ = _
    rw [y2, zbd_some]
/-- the sign of a term: 0, 1, 2 for variables, 3 .. 6 for letters, -1 for another -/
def tsg (x : Int) : Int := if 120 ≤ x ∧ x ≤ 122 then x - 120 else if 97 ≤ x ∧ x ≤ 100 then x - 97 + 3 else -1
theorem termSign_eq {F : Nat} {x : Int} {h : HF} : fX10_termSign F x h = some (tsg x, h) := by
  unfold fX10_termSign tsg
  simp only [zjn_eq]
  by_cases q1 : 120 ≤ x ∧ x ≤ 122
  · rw [if_neg (by omega), if_neg (by omega), if_pos q1, wr_id ⟨by omega, by omega⟩]
  · rw [if_neg q1]
    have r : (if x < 97 then (some (-1, h) : RO) else if 100 < x then some (-1, h) else some (wr (wr (x - 97) + 3), h)) = some (if 97 ≤ x ∧ x ≤ 100 then x - 97 + 3 else -1, h) := by
      by_cases q2 : 97 ≤ x ∧ x ≤ 100
      · rw [if_neg (by omega), if_neg (by omega), if_pos q2, wr_id (x := x - 97) ⟨by omega, by omega⟩, wr_id ⟨by omega, by omega⟩]
      · rw [if_neg q2]
        by_cases q3 : x < 97
        · rw [if_pos q3]
        · rw [if_neg q3, if_pos (by omega)]
    by_cases q2 : x < 120
    · rw [if_pos q2]; exact r
    · rw [if_neg q2, if_pos (by omega)]; exact r
theorem isVar_eq {F : Nat} {x : Int} {h : HF} : fX12_isVariable F x h = some (bl (120 ≤ x ∧ x ≤ 122), h) := by
  unfold fX12_isVariable
  simp only [zjn_eq]
  by_cases q : x < 120
  · rw [if_pos q, bl_neg (by omega)]; rfl
  · rw [if_neg q]
    by_cases q1 : 122 < x
    · rw [if_pos q1, bl_neg (by omega)]; rfl
    · rw [if_neg q1, bl_pos (by omega)]; rfl
theorem isLet_eq {F : Nat} {x : Int} {h : HF} : fX12_isLetter F x h = some (bl (97 ≤ x ∧ x ≤ 100), h) := by
  unfold fX12_isLetter
  simp only [zjn_eq]
  by_cases q : x < 97
  · rw [if_pos q, bl_neg (by omega)]; rfl
  · rw [if_neg q]
    by_cases q1 : 100 < x
    · rw [if_pos q1, bl_neg (by omega)]; rfl
    · rw [if_neg q1, bl_pos (by omega)]; rfl
