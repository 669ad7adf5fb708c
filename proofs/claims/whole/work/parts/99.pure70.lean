/-! laws: do letters have as many arguments everywhere -/
def fsI (sg : Nat → Nat) (x : Nat) : Nat → Nat → Nat
  | 0, i => i
  | m + 1, i => if sg i = x then i else fsI sg x m (i + 1)
theorem fsI_ok {sg : Nat → Nat} {x : Nat} : ∀ (m i : Nat), sg (i + m) = x → sg (fsI sg x m i) = x ∧ i ≤ fsI sg x m i ∧ fsI sg x m i ≤ i + m ∧ ∀ j, i ≤ j → j < fsI sg x m i → sg j ≠ x
  | 0, i, h => ⟨h, Nat.le_refl _, Nat.le_refl _, fun j h1 h2 => absurd (show j < i from h2) (by omega)⟩
  | m + 1, i, h => by
    simp only [fsI]
    by_cases q : sg i = x
    · rw [if_pos q]
      exact ⟨q, Nat.le_refl _, by omega, fun j h1 h2 => absurd h2 (by omega)⟩
    · rw [if_neg q]
      obtain ⟨h1, h2, h3, h4⟩ := fsI_ok (sg := sg) (x := x) m (i + 1) (by rw [show i + 1 + m = i + (m + 1) by omega]; exact h)
      refine ⟨h1, by omega, by omega, fun j a b => ?_⟩
      by_cases z : j = i
      · rw [z]; exact q
      · exact h4 j (by omega) b
def fst1 (sg : Nat → Nat) (t : Nat) : Nat := fsI sg (sg t) t 0
theorem fst_ok {sg : Nat → Nat} {t : Nat} : sg (fst1 sg t) = sg t ∧ fst1 sg t ≤ t ∧ ∀ j, j < fst1 sg t → sg j ≠ sg t := by
  obtain ⟨h1, h2, h3, h4⟩ := fsI_ok (sg := sg) (x := sg t) t 0 (by rw [Nat.zero_add])
  exact ⟨h1, by unfold fst1; omega, fun j hj => h4 j (by omega) hj⟩
theorem fst_eq {sg : Nat → Nat} {t f : Nat} (h1 : sg f = sg t) (h2 : ∀ j, j < f → sg j ≠ sg t) : fst1 sg t = f := by
  obtain ⟨a1, a2, a3⟩ := fst_ok (sg := sg) (t := t)
  rcases Nat.lt_trichotomy (fst1 sg t) f with q | q | q
  · exact absurd a1 (h2 _ q)
  · exact q
  · exact absurd h1 (a3 _ q)
/-- the first term that has another number of arguments than its letter at first -/
def ferr (sg mn : Nat → Nat) : Nat → Nat → Option Nat
  | 0, _ => none
  | m + 1, i => if mn (fst1 sg i) = mn i then ferr sg mn m (i + 1) else some i
theorem ferr_lt {sg mn : Nat → Nat} {e : Nat} : ∀ (m i : Nat), ferr sg mn m i = some e → i ≤ e ∧ e < i + m
  | 0, _, h => by cases h
  | m + 1, i, h => by
    simp only [ferr] at h
    by_cases q : mn (fst1 sg i) = mn i
    · rw [if_pos q] at h
      have := ferr_lt m (i + 1) h
      omega
    · rw [if_neg q] at h
      injection h with h
      omega
section TS
variable {F S T : Nat} {sg mn : Nat → Nat}
theorem cmp_L (hS : LCell S) (hT : T ≤ 80) (hp : ∀ t, t < T → sg t < 7 ∧ (sg t < 3 → mn t = 0) ∧ mn t ≤ 2) {k102 : HF → RO} {k83 : Int → HF → RO} : ∀ (m i N : Nat) (h : HF), i + m = T → m + 1 ≤ N → h 86 4 = (S : Int) → h S 2 = (T : Int) → (∀ t, t < T → h (S + 5) t = (sg t : Int) ∧ h (S + 6) t = (mn t : Int)) → (∀ l, l < 4 → (h 90 l = -1 ∧ ∀ j, j < i → sg j ≠ l + 3) ∨ ∃ f, f < i ∧ sg f = l + 3 ∧ (∀ j, j < f → sg j ≠ l + 3) ∧ h 90 l = (mn f : Int)) → ∃ h', LX10_compareArguments_10 F 86 k102 k83 N (i : Int) h = (match ferr sg mn m i with | none => k102 h' | some e => k83 (e : Int) h') ∧ ∀ c j, c ≠ 90 → h' c j = h c j := by
  have hf := LCell_far hS
  obtain ⟨-, -, -, -, k5, k6, -⟩ := LCell_kl hS
  intro m
  induction m with
  | zero =>
    intro i N h hi hN h4 h2 hr h9
    obtain ⟨N, rfl⟩ : ∃ M, N = M + 1 := ⟨N - 1, by omega⟩
    refine ⟨h, ?_, fun _ _ _ => rfl⟩
    rw [LX10_compareArguments_10, zgd_at h4, zgf_eq, h2, if_neg (by omega)]
    rfl
  | succ m ih =>
    intro i N h hi hN h4 h2 hr h9
    obtain ⟨N, rfl⟩ : ∃ M, N = M + 1 := ⟨N - 1, by omega⟩
    obtain ⟨r1, r2⟩ := hr i (by omega)
    obtain ⟨p1, p2, p3⟩ := hp i (by omega)
    rw [LX10_compareArguments_10, zgd_at h4, zgf_eq, h2, if_pos (by omega), zgd_at h4, zrd_ok (a := S + 5) ⟨by omega, by omega⟩, Int.toNat_natCast, r1, zlet_eq, wr_id (x := (sg i : Int) - 3) ⟨by omega, by omega⟩]
    simp only [zjn_eq, zlet_eq]
    rw [wr_s (by omega)]
    obtain ⟨f1, f2, f3⟩ := fst_ok (sg := sg) (t := i)
    by_cases q3 : sg i < 3
    · rw [if_pos (by omega)]
      have ef : ferr sg mn (m + 1) i = ferr sg mn m (i + 1) := by
        simp only [ferr]
        rw [if_pos]
        rw [p2 q3]
        exact (hp (fst1 sg i) (by omega)).2.1 (by omega)
      rw [ef]
      obtain ⟨h', x1, x2⟩ := ih (i + 1) N h (by omega) (by omega) h4 h2 hr (fun l hl => by
        rcases h9 l hl with ⟨a1, a2⟩ | ⟨f, a1, a2, a3, a4⟩
        · refine Or.inl ⟨a1, fun j hj => ?_⟩
          by_cases z : j = i
          · rw [z]; omega
          · exact a2 j (by omega)
        · exact Or.inr ⟨f, by omega, a2, a3, a4⟩)
      exact ⟨h', x1, x2⟩
    · obtain ⟨l, el⟩ : ∃ l : Nat, sg i = l + 3 := ⟨sg i - 3, by omega⟩
      have hl4 : l < 4 := by omega
      rw [if_neg (by omega), show (sg i : Int) - 3 = (l : Int) by omega, rd90 hl4]
      rcases h9 l hl4 with ⟨a1, a2⟩ | ⟨f, a1, a2, a3, a4⟩
      · have e1 : fst1 sg i = i := fst_eq rfl (fun j hj => by rw [el]; exact a2 j hj)
        have ef : ferr sg mn (m + 1) i = ferr sg mn m (i + 1) := by
          simp only [ferr]
          rw [e1, if_pos rfl]
        rw [if_pos a1, zgd_at h4, zrd_ok (a := S + 6) ⟨by omega, by omega⟩, Int.toNat_natCast, r2, wt90 hl4, rd90 hl4, stp_eq, zgd_at (v := S) (by rw [stp_ne (by omega)]; exact h4), zrd_ok (a := S + 6) ⟨by omega, by omega⟩, Int.toNat_natCast, stp_ne (by omega), r2, if_pos rfl, ef]
        obtain ⟨h', x1, x2⟩ := ih (i + 1) N (stp h 90 l (mn i : Int)) (by omega) (by omega) (by rw [stp_ne (by omega)]; exact h4) (by rw [stp_ne (by omega)]; exact h2) (fun t ht => by rw [stp_ne (by omega), stp_ne (by omega)]; exact hr t ht) (fun l' hl' => by
          by_cases z : l' = l
          · subst z
            exact Or.inr ⟨i, by omega, el, a2, stp_eq _ _ _ _⟩
          · rw [stp_ne (Or.inr z)]
            rcases h9 l' hl' with ⟨b1, b2⟩ | ⟨f, b1, b2, b3, b4⟩
            · refine Or.inl ⟨b1, fun j hj => ?_⟩
              by_cases y : j = i
              · rw [y]; omega
              · exact b2 j (by omega)
            · exact Or.inr ⟨f, by omega, b2, b3, b4⟩)
        exact ⟨h', x1, fun c j z => by rw [x2 c j z, stp_ne (Or.inl z)]⟩
      · have e1 : fst1 sg i = f := fst_eq (by rw [a2, el]) (fun j hj => by rw [el]; exact a3 j hj)
        rw [if_neg (by rw [a4]; omega), rd90 hl4, a4, zgd_at h4, zrd_ok (a := S + 6) ⟨by omega, by omega⟩, Int.toNat_natCast, r2]
        by_cases qm : mn f = mn i
        · have ef : ferr sg mn (m + 1) i = ferr sg mn m (i + 1) := by
            simp only [ferr]
            rw [e1, if_pos qm]
          rw [if_pos (by omega), ef]
          obtain ⟨h', x1, x2⟩ := ih (i + 1) N h (by omega) (by omega) h4 h2 hr (fun l' hl' => by
            rcases h9 l' hl' with ⟨b1, b2⟩ | ⟨f', b1, b2, b3, b4⟩
            · refine Or.inl ⟨b1, fun j hj => ?_⟩
              by_cases y : j = i
              · rw [y, el]
                intro z
                have : l' = l := by omega
                subst this
                exact b2 f a1 a2
              · exact b2 j (by omega)
            · exact Or.inr ⟨f', by omega, b2, b3, b4⟩)
          exact ⟨h', x1, x2⟩
        · have ef : ferr sg mn (m + 1) i = some i := by
            simp only [ferr]
            rw [e1, if_neg qm]
          rw [if_neg (by omega), ef]
          exact ⟨h, rfl, fun _ _ _ => rfl⟩
theorem agr_in {h : HF} {i : Nat} (hT : T ≤ 80) (hr : ∀ t, t < T → h 194 (320 + t) = (sg t : Int)) (hi : i < T) {k50 : Int → Int → HF → RO} : ∀ (m f N : Nat), f + m = i → m + 1 ≤ N → LX12_agree_21 F 181 (i : Int) k50 N (f : Int) h = k50 (i : Int) ((fsI sg (sg i) m f : Nat) : Int) h := by
  have st : ∀ (N f : Nat), f ≤ i → LX12_agree_21 F 181 (i : Int) k50 (N + 1) (f : Int) h = if sg f = sg i then k50 (i : Int) (f : Int) h else LX12_agree_21 F 181 (i : Int) k50 N ((f + 1 : Nat) : Int) h := fun N f hf => by
    rw [LX12_agree_21, wr_id (x := 320 + (f : Int)) ⟨by omega, by omega⟩, wr_id (x := 320 + (i : Int)) ⟨by omega, by omega⟩, show 320 + (f : Int) = ((320 + f : Nat) : Int) by omega, show 320 + (i : Int) = ((320 + i : Nat) : Int) by omega, rdm13 (by omega), rdm13 (by omega), hr f (by omega), hr i hi, zlet_eq, wr_s (by omega)]
    by_cases q : sg f = sg i
    · rw [if_pos q, if_pos (by omega)]
    · rw [if_neg q, if_neg (by omega)]
  intro m
  induction m with
  | zero =>
    intro f N hf hN
    obtain ⟨N, rfl⟩ : ∃ M, N = M + 1 := ⟨N - 1, by omega⟩
    rw [st _ _ (by omega), show f = i by omega, if_pos rfl]
    rfl
  | succ m ih =>
    intro f N hf hN
    obtain ⟨N, rfl⟩ : ∃ M, N = M + 1 := ⟨N - 1, by omega⟩
    rw [st _ _ (by omega)]
    simp only [fsI]
    by_cases q : sg f = sg i
    · rw [if_pos q, if_pos q]
    · rw [if_neg q, if_neg q]
      exact ih (f + 1) N (by omega) (by omega)
theorem agr_L {pc : Nat → Nat} (hF : 82 ≤ F) (hT : T ≤ 80) {k94 : HF → RO} : ∀ (m i N : Nat) (h : HF), i + m = T → m + 1 ≤ N → h 199 4 = (T : Int) → h 181 35 = 0 → (∀ t, t < T → h 194 (320 + t) = (sg t : Int) ∧ h 195 (320 + t) = (mn t : Int) ∧ h 198 t = (pc t : Int)) → LX12_agree_2 F 181 k94 N (i : Int) h = match ferr sg mn m i with | none => k94 h | some e => k94 (stp (stp h 181 35 2) 181 36 (pc e : Int)) := by
  have r4 : ∀ (h : HF) (f : Int → RO), zrd h (181 + 18) 4 f = f (h 199 4) := fun h f => rdm18 (i := 4) (by omega)
  intro m
  induction m with
  | zero =>
    intro i N h hi hN h4 h5 hr
    obtain ⟨N, rfl⟩ : ∃ M, N = M + 1 := ⟨N - 1, by omega⟩
    rw [LX12_agree_2, r4, h4, if_neg (by omega)]
    rfl
  | succ m ih =>
    intro i N h hi hN h4 h5 hr
    obtain ⟨N, rfl⟩ : ∃ M, N = M + 1 := ⟨N - 1, by omega⟩
    obtain ⟨f1, f2, f3⟩ := fst_ok (sg := sg) (t := i)
    rw [LX12_agree_2, r4, h4, if_pos (by omega), zgf_eq, h5, if_pos rfl, zjn_eq]
    refine (agr_in (sg := sg) hT (fun t ht => (hr t ht).1) (show i < T by omega) i 0 F (by omega) (by omega)).trans ?_
    show zrd h (181 + 14) (wr (320 + ((fst1 sg i : Nat) : Int))) _ = _
    rw [wr_id (x := 320 + ((fst1 sg i : Nat) : Int)) ⟨by omega, by omega⟩, wr_id (x := 320 + (i : Int)) ⟨by omega, by omega⟩, show 320 + ((fst1 sg i : Nat) : Int) = ((320 + fst1 sg i : Nat) : Int) by omega, show 320 + (i : Int) = ((320 + i : Nat) : Int) by omega, rdm14 (by omega), rdm14 (by omega), (hr _ (show fst1 sg i < T by omega)).2.1, (hr i (by omega)).2.1]
    simp only [zjn_eq, zlet_eq, zpf_eq]
    rw [wr_s (by omega)]
    by_cases q : mn (fst1 sg i) = mn i
    · have ef : ferr sg mn (m + 1) i = ferr sg mn m (i + 1) := by
        simp only [ferr]
        rw [if_pos q]
      rw [if_pos (by omega), ef]
      exact ih (i + 1) N h (by omega) (by omega) h4 h5 hr
    · have ef : ferr sg mn (m + 1) i = some i := by
        simp only [ferr]
        rw [if_neg q]
      rw [if_neg (by omega), ef, rdm17 (by omega), stp_ne (by omega), (hr i (by omega)).2.2]
      obtain ⟨N, rfl⟩ : ∃ M, N = M + 1 := ⟨N - 1, by omega⟩
      rw [LX12_agree_2, r4, stp_ne (by omega), stp_ne (by omega), h4, zgf_eq, stp_ne (by omega), stp_eq, if_neg (show ¬ (2 : Int) = 0 by decide)]
      by_cases z : ((i + 1 : Nat) : Int) < (T : Int)
      · rw [if_pos z]
      · rw [if_neg z]
end TS
theorem agree_err {F : Nat} {hm : HF} (hF : 1 ≤ F) (e : ¬ hm 181 35 = 0) : fX12_agree F 181 hm = some (0, hm) := by
  have r4 : ∀ (h : HF) (f : Int → RO), zrd h (181 + 18) 4 f = f (h 199 4) := fun h f => rdm18 (i := 4) (by omega)
  obtain ⟨N, rfl⟩ : ∃ N, F = N + 1 := ⟨F - 1, by omega⟩
  unfold fX12_agree
  rw [zjn_eq, LX12_agree_2, r4, zgf_eq, if_neg e]
  by_cases z : (0 : Int) < hm 199 4
  · rw [if_pos z]
  · rw [if_neg z]
/-- both sides compare arguments -/
theorem agree2 {F : Nat} {t : List Int} {m S a nl T lo : Nat} {sg mn se pc : Nat → Nat} {hc hm : HF} (hF : 402 ≤ F) (hS : LCell S) (hR : RD t m S hc hm a) (h2 : T2 S nl lo hc hm T sg mn se pc) :
    (∃ hc', fX10_compareArguments F 86 hc = some (0, hc') ∧ fX12_agree F 181 hm = some (0, hm) ∧ ∀ c i, c ≠ 90 → hc' c i = hc c i)
    ∨ (∃ hc' hm', fX10_compareArguments F 86 hc = some (0, hc') ∧ fX12_agree F 181 hm = some (0, hm') ∧ Er hc' hm' ∧ (∀ c i, c ≠ 90 → (c ≠ 86 ∨ (i ≠ 0 ∧ i ≠ 1)) → hc' c i = hc c i) ∧ ∀ c i, (c ≠ 181 ∨ (i ≠ 35 ∧ i ≠ 36)) → hm' c i = hm c i) := by
  have hf := LCell_far hS
  obtain ⟨⟨b1, b2, b3, b4, b5⟩, brow, -⟩ := h2
  have fl : fJ7_fill_53178 F (86 + 4) (-1) hc = some (0, fil hc 90 0 4 (-1)) := fill0_eq k90 (by omega) (by omega)
  have fk : ∀ c i, c ≠ 90 → fil hc 90 0 4 (-1) c i = hc c i := fun c i z => fil_off (Or.inl z)
  obtain ⟨h', x1, x2⟩ := cmp_L (F := F) (S := S) (T := T) (sg := sg) (mn := mn) hS b4 (fun j hj => ⟨(brow j hj).2.2.1, (brow j hj).2.2.2.1, (brow j hj).2.2.2.2.1⟩) (k102 := fun h => some (0, h)) (k83 := fun (x83_1 : Int) (h : HF) => zrd h (86 + 3) x83_1 fun x2 => zbd (fX10_failAt F 86 x2 2 h) fun r3 h => some (0, h)) T 0 F (fil hc 90 0 4 (-1)) (by omega) (by omega) (by rw [fk _ _ (by omega)]; exact hR.1.2.1) (by rw [fk _ _ (by omega)]; exact b1) (fun j hj => by rw [fk _ _ (by omega), fk _ _ (by omega)]; exact ⟨(brow j hj).1.1, (brow j hj).1.2.1⟩) (fun l hl => Or.inl ⟨fil_in ⟨by omega, by omega⟩, fun j hj => absurd hj (by omega)⟩)
  have y1 := agr_L (F := F) (T := T) (sg := sg) (mn := mn) (pc := pc) (by omega) b4 (k94 := fun h => some (0, h)) T 0 F hm (by omega) (by omega) b3 hR.2.2.2.2.2.2 (fun j hj => ⟨(brow j hj).2.1.1, (brow j hj).2.1.2.1, (brow j hj).2.1.2.2.2.2⟩)
  have k' : ∀ c i, c ≠ 90 → h' c i = hc c i := fun c i z => by rw [x2 c i z, fk c i z]
  have eC : ∀ y : RO, LX10_compareArguments_10 F 86 (fun h => some (0, h)) (fun (x83_1 : Int) (h : HF) => zrd h (86 + 3) x83_1 fun x2 => zbd (fX10_failAt F 86 x2 2 h) fun r3 h => some (0, h)) F 0 (fil hc 90 0 4 (-1)) = y → fX10_compareArguments F 86 hc = y := fun y e => by
    unfold fX10_compareArguments
    rw [fl, zbd_some, zjn_eq, zjn_eq]
    exact e
  cases hq : ferr sg mn T 0 with
  | none =>
    rw [hq] at x1 y1
    exact Or.inl ⟨h', eC _ x1, y1, k'⟩
  | some e =>
    rw [hq] at x1 y1
    have he := ferr_lt T 0 hq
    obtain ⟨⟨-, -, -, r4⟩, -, -, -, -, r13⟩ := brow e (by omega)
    refine Or.inr ⟨stp (stp h' 86 0 2) 86 1 (pc e : Int), stp (stp hm 181 35 2) 181 36 (pc e : Int), eC _ (x1.trans ?_), y1, ⟨2, pc e, by omega, by omega, r13, by rw [stp_ne (by omega), stp_eq]; rfl, stp_eq _ _ _ _, by rw [stp_ne (by omega), stp_eq]; rfl, stp_eq _ _ _ _⟩, fun c i z w => by rw [stp_ne (by omega), stp_ne (by omega)]; exact k' c i z, fun c i z => by rw [stp_ne (by omega), stp_ne (by omega)]⟩
    show zrd h' (86 + 3) (e : Int) _ = _
    rw [rd89 (by omega), k' _ _ (by omega), r4]
    rfl
