/-! functions: the reference -/
theorem gives_L {F a : Nat} {h : HF} {l : List Nat} (hl : ∀ i, l.getD i 0 < 7) {k24 : Int → HF → RO} : ∀ (m k N : Nat), a + m = k → k ≤ 7 → m + 1 ≤ N → LX12_gives_7 F (a : Int) k24 N (cdR l 0 0 (k + 1) : Int) (k : Int) h = k24 (cdR l 0 0 (a + 1) : Int) h := by
  intro m
  induction m with
  | zero =>
    intro k N hk hk7 hN
    obtain ⟨N, rfl⟩ : ∃ M, N = M + 1 := ⟨N - 1, by omega⟩
    rw [LX12_gives_7, if_neg (by omega), show k = a by omega]
  | succ m ih =>
    intro k N hk hk7 hN
    obtain ⟨N, rfl⟩ : ∃ M, N = M + 1 := ⟨N - 1, by omega⟩
    have hlt : cdR l 0 0 (k + 1) < 2 ^ 31 := by
      have h1 := cdR_lt hl (k + 1)
      have h2 : 7 ^ (k + 1) ≤ 7 ^ 8 := Nat.pow_le_pow_right (by omega) (by omega)
      have h3 : (7 : Nat) ^ 8 = 5764801 := by decide
      omega
    have sn := cdR_snoc (l := l) k 0 0
    have l0 := hl k
    rw [Nat.zero_add] at sn
    have dv : wdiv (cdR l 0 0 (k + 1) : Int) 7 = (cdR l 0 0 k : Int) := by
      rw [show wdiv (cdR l 0 0 (k + 1) : Int) 7 = ((cdR l 0 0 (k + 1) / 7 : Nat) : Int) from wdiv_N (k := 7) hlt, sn]
      have : (cdR l 0 0 k * 7 + l.getD k 0) / 7 = cdR l 0 0 k := by omega
      rw [this]
    rw [LX12_gives_7, if_pos (by omega), zdv_ok (by decide), dv, zlet_eq, zlet_eq, wr_id ⟨by omega, by omega⟩, show (k : Int) + (-1) = ((k - 1 : Nat) : Int) by omega]
    have := ih (k - 1) N (by omega) (by omega) (by omega)
    rw [show k - 1 + 1 = k by omega] at this
    exact this
theorem gives_eq {F a n : Nat} {h : HF} {l : List Nat} (hF : 10 ≤ F) (hn : n ≤ 7) (ha : a < n) (hl : ∀ i, l.getD i 0 < 7) : fX12_gives F (cdL n l : Int) (n : Int) (a : Int) h = some ((l.getD a 0 : Int), h) := by
  unfold fX12_gives cdL
  rw [wr_id ⟨by omega, by omega⟩, zlet_eq, zjn_eq, show (n : Int) - 1 = ((n - 1 : Nat) : Int) by omega]
  have L := gives_L (F := F) (a := a) (h := h) (l := l) hl (k24 := fun x h => zdv 7 (some (wrem x 7, h))) (n - 1 - a) (n - 1) F (by omega) (by omega) (by omega)
  rw [show n - 1 + 1 = n by omega] at L
  refine L.trans ?_
  have hlt : cdR l 0 0 (a + 1) < 2 ^ 31 := by
    have h1 := cdR_lt hl (a + 1)
    have h2 : 7 ^ (a + 1) ≤ 7 ^ 8 := Nat.pow_le_pow_right (by omega) (by omega)
    have h3 : (7 : Nat) ^ 8 = 5764801 := by decide
    omega
  have sn := cdR_snoc (l := l) a 0 0
  have l0 := hl a
  rw [Nat.zero_add] at sn
  rw [zdv_ok (by decide), show wrem (cdR l 0 0 (a + 1) : Int) 7 = ((cdR l 0 0 (a + 1) % 7 : Nat) : Int) from wrem_N (k := 7) hlt, sn, show (cdR l 0 0 a * 7 + l.getD a 0) % 7 = l.getD a 0 by omega]
section FR
variable {F n d : Nat} {ar : List Nat} {tb : Nat → Nat → Int}
def FRs (h : HF) (d n : Nat) (ar : List Nat) (tb : Nat → Nat → Int) (Ls : List (List Nat)) : Prop := h 181 53 = (Ls.length : Int) ∧ (∀ i, i < Ls.length → h 215 i = (cdL n (Ls.getD i []) : Int)) ∧ RepM h 184 185 186 187 d n ar tb ∧ FL tb n ar Ls
theorem FR_keep {h h' : HF} {Ls : List (List Nat)} (e : ∀ c i, c ≠ 216 → h' c i = h c i) (hS : FRs h d n ar tb Ls) : FRs h' d n ar tb Ls := ⟨by rw [e _ _ (by omega)]; exact hS.1, fun i hi => by rw [e _ _ (by omega)]; exact hS.2.1 i hi, RepM_keep (fun k => ⟨e _ _ (by omega), e _ _ (by omega), e _ _ (by omega), e _ _ (by omega)⟩) hS.2.2.1, hS.2.2.2⟩
theorem addf_L {h : HF} {Ls : List (List Nat)} {c : Nat} (hS : FRs h d n ar tb Ls) {k38 : Int → HF → RO} {k30 : HF → RO} : ∀ (m i N : Nat), i + m = Ls.length → m + 1 ≤ N → LX12_addFunction_12 F 181 (c : Int) k38 k30 N (i : Int) h = if exB (fun i => decide (cdL n (Ls.getD i []) = c)) i m = true then k30 h else k38 (c : Int) h := by
  have l300 := hS.2.2.2.2.1
  intro m
  induction m with
  | zero =>
    intro i N hi hN
    obtain ⟨N, rfl⟩ : ∃ M, N = M + 1 := ⟨N - 1, by omega⟩
    rw [LX12_addFunction_12, zgf_eq, hS.1, if_neg (by omega)]
    rfl
  | succ m ih =>
    intro i N hi hN
    obtain ⟨N, rfl⟩ : ∃ M, N = M + 1 := ⟨N - 1, by omega⟩
    rw [LX12_addFunction_12, zgf_eq, hS.1, if_pos (by omega), rdm34 (by omega), hS.2.1 i (by omega), zlet_eq, wr_s (by omega), ih (i + 1) N (by omega) (by omega), exB_s]
    by_cases q : cdL n (Ls.getD i []) = c
    · rw [if_pos (by omega), decide_eq_true q, Bool.true_or, if_pos rfl]
    · rw [if_neg (by omega), decide_eq_false q, Bool.false_or]
theorem addFunction_eq {h : HF} {Ls : List (List Nat)} {l : List Nat} (hF : 302 ≤ F) (hn : n ≤ 7) (hS : FRs h d n ar tb Ls) (hL : LN h 216 l) (hl : VLn n l) (hg : Gen tb n ar l) : ∃ (h' : HF) (Ms : List (List Nat)) (ft : Bool), fX12_addFunction F 181 (n : Int) h = some (bi ft, h') ∧ FRs h' d n ar tb (Ls ++ Ms) ∧ (ft = true → l ∈ Ls ++ Ms) ∧ (ft = false → (Ls ++ Ms).length = 300 ∧ l ∉ Ls ++ Ms) ∧ ∀ c i, c ≠ 215 → (c ≠ 181 ∨ i ≠ 53) → h' c i = h c i := by
  obtain ⟨f1, f2, f3, g1, g2, g3⟩ := hS
  have hl7 := VL_7 hn hl
  have en : fX12_told F 181 (181 + 35) (n : Int) h = some ((cdL n l : Int), h) := told_eq (c := 216) (by omega) (by decide +kernel) hL hl.1 hn (fun i _ => hl7 i)
  have isin : exB (fun i => decide (cdL n (Ls.getD i []) = cdL n l)) 0 Ls.length = true ↔ l ∈ Ls := by
    rw [exB_iff]
    constructor
    · rintro ⟨i, _, hi, e⟩
      have hm := gdl_mem (Ls := Ls) (i := i) (by omega)
      rw [← cdL_inj hn (g3 _ hm).1 hl (of_decide_eq_true e)]
      exact hm
    · intro z
      obtain ⟨i, hi, e⟩ := mem_gdl z
      exact ⟨i, by omega, by omega, decide_eq_true (by rw [e])⟩
  have L := addf_L (F := F) (c := cdL n l) (hS := (⟨f1, f2, f3, g1, g2, g3⟩ : FRs h d n ar tb Ls)) (k38 := fun (x38_2 : Int) (h : HF) => zgf h 181 53 fun x2 => if x2 = 300 then zrz 0 h else zgf h 181 53 fun x3 => zwr h (181 + 34) x3 x38_2 fun h => zgf h 181 53 fun x4 => zpf h 181 53 (wr (x4 + 1)) fun h => zrz 1 h) (k30 := fun h => zrz 1 h) Ls.length 0 F (by omega) (by omega)
  have st : fX12_addFunction F 181 (n : Int) h = if l ∈ Ls then some (1, h) else if Ls.length = 300 then some (0, h) else some (1, stp (stp h 215 Ls.length (cdL n l : Int)) 181 53 ((Ls.length + 1 : Nat) : Int)) := by
    unfold fX12_addFunction
    rw [en, zbd_some, zjn_eq, zjn_eq]
    refine L.trans ?_
    by_cases q : l ∈ Ls
    · rw [if_pos (isin.mpr q), if_pos q]; rfl
    · rw [if_neg (fun z => q (isin.mp z)), if_neg q, zgf_eq, f1]
      by_cases z : Ls.length = 300
      · rw [if_pos (by omega), if_pos z]; rfl
      · rw [if_neg (by omega), if_neg z, zgf_eq, f1, wtm34 (by omega), zgf_eq, stp_ne (by omega), f1, wr_s (by omega), zpf_eq]; rfl
  rw [st]
  by_cases q : l ∈ Ls
  · rw [if_pos q]
    exact ⟨h, [], true, rfl, by rw [List.append_nil]; exact ⟨f1, f2, f3, g1, g2, g3⟩, fun _ => by rw [List.append_nil]; exact q, fun z => absurd z (by decide), fun _ _ _ _ => rfl⟩
  · rw [if_neg q]
    by_cases z : Ls.length = 300
    · rw [if_pos z]
      exact ⟨h, [], false, rfl, by rw [List.append_nil]; exact ⟨f1, f2, f3, g1, g2, g3⟩, fun y => absurd y (by decide), fun _ => by rw [List.append_nil]; exact ⟨z, q⟩, fun _ _ _ _ => rfl⟩
    · rw [if_neg z]
      refine ⟨_, [l], true, rfl, ⟨?_, fun i hi => ?_, ?_, ?_, ?_, fun l' hl' => ?_⟩, fun _ => by simp, fun y => absurd y (by decide), fun c i w y => by rw [stp_ne y, stp_ne (Or.inl w)]⟩
      · rw [stp_eq, List.length_append]; rfl
      · rw [List.length_append, List.length_singleton] at hi
        rw [stp_ne (by omega)]
        by_cases y : i = Ls.length
        · subst y; rw [stp_eq, gdl_eq]
        · rw [stp_ne (by omega), gdl_lt (by omega)]; exact f2 i (by omega)
      · exact RepM_keep (fun k => ⟨by rw [stp_ne (by omega), stp_ne (by omega)], by rw [stp_ne (by omega), stp_ne (by omega)], by rw [stp_ne (by omega), stp_ne (by omega)], by rw [stp_ne (by omega), stp_ne (by omega)]⟩) f3
      · rw [List.nodup_append]
        exact ⟨g1, by simp, fun a ha b hb e => q (by rw [List.mem_singleton] at hb; rw [← hb, ← e]; exact ha)⟩
      · rw [List.length_append, List.length_singleton]; omega
      · rcases List.mem_append.mp hl' with y | y
        · exact g3 l' y
        · rw [List.mem_singleton] at y; subst y; exact ⟨hl, hg⟩
theorem work_L {Ls : List (List Nat)} (hF : 10 ≤ F) (hd : d < 10) (hw : WF n ar tb) {o : Nat} {f g : List Nat} (ho : o < ar.length) (hf : VLn n f) (hg : VLn n g) {k54 : Int → HF → RO} : ∀ (m a N : Nat) (h : HF), a + m = n → m + 1 ≤ N → FRs h d n ar tb Ls → (∀ q, q < a → h 216 q = ((apL tb n ar o f g).getD q 0 : Int)) → ∃ h', LX12_work_11 F 181 (d : Int) (o : Int) (cdL n f : Int) (cdL n g : Int) (n : Int) k54 N (a : Int) h = k54 (n : Int) h' ∧ LN h' 216 (apL tb n ar o f g) ∧ ∀ c q, c ≠ 216 → h' c q = h c q := by
  have hn := hw.1
  intro m
  induction m with
  | zero =>
    intro a N h ha hN hS hp
    obtain ⟨N, rfl⟩ : ∃ M, N = M + 1 := ⟨N - 1, by omega⟩
    refine ⟨h, ?_, fun q hq => hp q ?_, fun _ _ _ => rfl⟩
    · rw [LX12_work_11, if_neg (by omega)]
    · unfold apL at hq; rw [List.length_map, List.length_range] at hq; omega
  | succ m ih =>
    intro a N h ha hN hS hp
    obtain ⟨N, rfl⟩ : ∃ M, N = M + 1 := ⟨N - 1, by omega⟩
    rw [LX12_work_11, if_pos (by omega), gives_eq hF hn.2 (by omega) (VL_7 hn.2 hf), zbd_some, gives_eq hF hn.2 (by omega) (VL_7 hn.2 hg), zbd_some, mval hd hw hS.2.2.1 ho (hf.2 a (by omega)) (hg.2 a (by omega)), zbd_some, wtm35 (by omega), zlet_eq, wr_s (by omega)]
    obtain ⟨h', x1, x2, x3⟩ := ih (a + 1) N (stp h 216 a ((vl tb n ar o (f.getD a 0) (g.getD a 0) : Nat) : Int)) (by omega) (by omega) (FR_keep (fun c q z => stp_ne (Or.inl z)) hS) (fun q hq => by
      by_cases z : q = a
      · subst z; rw [stp_eq, ap_get (by omega)]
      · rw [stp_ne (by omega)]; exact hp q (by omega))
    exact ⟨h', x1, x2, fun c q z => by rw [x3 c q z, stp_ne (Or.inl z)]⟩
theorem work_eq {h : HF} {Ls : List (List Nat)} (hF : 302 ≤ F) (hd : d < 10) (hw : WF n ar tb) {o : Nat} {f g : List Nat} (ho : o < ar.length) (hf : VLn n f) (hg : VLn n g) (hG : Gen tb n ar (apL tb n ar o f g)) (hS : FRs h d n ar tb Ls) : ∃ (h' : HF) (Ms : List (List Nat)) (ft : Bool), fX12_work F 181 (d : Int) (o : Int) (cdL n f : Int) (cdL n g : Int) h = some (bi ft, h') ∧ FRs h' d n ar tb (Ls ++ Ms) ∧ (ft = true → apL tb n ar o f g ∈ Ls ++ Ms) ∧ (ft = false → (Ls ++ Ms).length = 300 ∧ apL tb n ar o f g ∉ Ls ++ Ms) ∧ ∀ c i, (c < 215 ∨ 216 < c) → (c ≠ 181 ∨ i ≠ 53) → h' c i = h c i := by
  have hn := hw.1
  obtain ⟨h1, x1, x2, x3⟩ := work_L (F := F) (Ls := Ls) (by omega) hd hw ho hf hg (k54 := fun (x54_5 : Int) (h : HF) => zbd (fX12_addFunction F 181 x54_5 h) fun r2 h => zrz r2 h) n 0 F h (by omega) (by omega) hS (fun q hq => absurd hq (by omega))
  obtain ⟨h2, Ms, ft, y1, y2, y3, y4, y5⟩ := addFunction_eq (F := F) hF hn.2 (FR_keep x3 hS) x2 (ap_VL hw ho hf.2 hg.2) hG
  refine ⟨h2, Ms, ft, ?_, y2, y3, y4, fun c i z w => by rw [y5 c i (by omega) w, x3 c i (by omega)]⟩
  unfold fX12_work
  rw [msz hd hS.2.2.1, zjn_eq]
  refine x1.trans ?_
  rw [y1, zbd_some]
  cases ft <;> rfl
/-- a search that failed met a function that is not among its 300 -/
def Ovf (tb : Nat → Nat → Int) (n : Nat) (ar : List Nat) (Ls : List (List Nat)) : Prop := Ls.length = 300 ∧ ∃ x, VLn n x ∧ Gen tb n ar x ∧ x ∉ Ls
theorem f154 (hF : 302 ≤ F) (hd : d < 10) (hw : WF n ar tb) {o i : Nat} (ho : o < ar.length) (h2 : ar.getD o 0 = 2) {k236 : Int → Int → HF → RO} : ∀ (m j N : Nat) (h : HF) (Ls : List (List Nat)) (ft : Bool), j + m = i + 1 → m + 1 ≤ N → i < Ls.length → FRs h d n ar tb Ls → (ft = false → Ovf tb n ar Ls) → ∃ (h' : HF) (Ms : List (List Nat)) (ft' : Bool), LX12_findFunctions_154 F 181 (d : Int) (i : Int) (o : Int) k236 N (bi ft) (j : Int) h = k236 (bi ft') (o : Int) h' ∧ FRs h' d n ar tb (Ls ++ Ms) ∧ (ft = false → ft' = false) ∧ (ft' = false → Ovf tb n ar (Ls ++ Ms)) ∧ (ft' = true → ∀ q, j ≤ q → q ≤ i → apL tb n ar o (Ls.getD i []) (Ls.getD q []) ∈ Ls ++ Ms ∧ apL tb n ar o (Ls.getD q []) (Ls.getD i []) ∈ Ls ++ Ms) ∧ ∀ c q, (c < 215 ∨ 216 < c) → (c ≠ 181 ∨ q ≠ 53) → h' c q = h c q := by
  have hn := hw.1
  intro m
  induction m with
  | zero =>
    intro j N h Ls ft hj hN hi hS hO
    obtain ⟨N, rfl⟩ : ∃ M, N = M + 1 := ⟨N - 1, by omega⟩
    refine ⟨h, [], ft, ?_, by rw [List.append_nil]; exact hS, fun z => z, by rw [List.append_nil]; exact hO, fun _ q q1 q2 => absurd q1 (by omega), fun _ _ _ _ => rfl⟩
    rw [LX12_findFunctions_154, if_pos (by omega)]
  | succ m ih =>
    intro j N h Ls ft hj hN hi hS hO
    obtain ⟨N, rfl⟩ : ∃ M, N = M + 1 := ⟨N - 1, by omega⟩
    have l300 := hS.2.2.2.2.1
    rw [LX12_findFunctions_154, if_neg (by omega), marity_eq hd hw hS.2.2.1 ho, zbd_some, if_pos (by omega)]
    cases ft with
    | false =>
      rw [if_pos (show bi false = 0 from rfl)]
      exact ⟨h, [], false, rfl, by rw [List.append_nil]; exact hS, fun _ => rfl, by rw [List.append_nil]; exact hO, fun z => absurd z (by decide), fun _ _ _ _ => rfl⟩
    | true =>
      obtain ⟨vi, gi⟩ := hS.2.2.2.2.2 _ (gdl_mem hi)
      obtain ⟨vj, gj⟩ := hS.2.2.2.2.2 _ (gdl_mem (show j < Ls.length by omega))
      obtain ⟨h1, M1, t1, x1, x2, x3, x4, x5⟩ := work_eq (F := F) hF hd hw ho vi vj (Gen_ap ho gi gj) hS
      rw [if_neg (show ¬ bi true = 0 by decide), rdm34 (by omega), hS.2.1 i hi, rdm34 (by omega), hS.2.1 j (by omega), x1, zbd_some]
      simp only [zjn_eq, zlet_eq]
      rw [wr_s (by omega)]
      cases t1 with
      | false =>
        rw [if_pos (show bi false = 0 from rfl)]
        have O1 : Ovf tb n ar (Ls ++ M1) := ⟨(x4 rfl).1, _, ap_VL hw ho vi.2 vj.2, Gen_ap ho gi gj, (x4 rfl).2⟩
        obtain ⟨h3, M3, t3, z1, z2, z3, z6, z4, z5⟩ := ih (j + 1) N h1 (Ls ++ M1) false (by omega) (by omega) (by rw [List.length_append]; omega) x2 (fun _ => O1)
        refine ⟨h3, M1 ++ M3, t3, z1, by rw [← List.append_assoc]; exact z2, fun q => absurd q (by decide), by rw [← List.append_assoc]; exact z6, fun q => absurd (z3 rfl) (by rw [q]; decide), fun c q w y => by rw [z5 c q w y, x5 c q w y]⟩
      | true =>
        have ki : (Ls ++ M1).getD i [] = Ls.getD i [] := gdl_app hi
        have kj : (Ls ++ M1).getD j [] = Ls.getD j [] := gdl_app (by omega)
        obtain ⟨h2', M2, t2, y1, y2, y3, y4, y5⟩ := work_eq (F := F) hF hd hw ho vj vi (Gen_ap ho gj gi) x2
        have l1 : (Ls ++ M1).length ≤ 300 := x2.2.2.2.2.1
        have l0 : Ls.length ≤ (Ls ++ M1).length := by rw [List.length_append]; omega
        have c1 : ∀ q, q < Ls.length → h1 215 q = (cdL n (Ls.getD q []) : Int) := fun q hq => by
          rw [x2.2.1 q (by omega), gdl_app hq]
        rw [if_neg (show ¬ bi true = 0 by decide), rdm34 (by omega), c1 j (by omega), rdm34 (by omega), c1 i hi, y1, zbd_some]
        have fin : ∃ (h' : HF) (Ms : List (List Nat)) (ft' : Bool), LX12_findFunctions_154 F 181 (d : Int) (i : Int) (o : Int) k236 N (bi t2) ((j + 1 : Nat) : Int) h2' = k236 (bi ft') (o : Int) h' ∧ FRs h' d n ar tb (Ls ++ Ms) ∧ (true = false → ft' = false) ∧ (ft' = false → Ovf tb n ar (Ls ++ Ms)) ∧ (ft' = true → ∀ q, j ≤ q → q ≤ i → apL tb n ar o (Ls.getD i []) (Ls.getD q []) ∈ Ls ++ Ms ∧ apL tb n ar o (Ls.getD q []) (Ls.getD i []) ∈ Ls ++ Ms) ∧ ∀ c q, (c < 215 ∨ 216 < c) → (c ≠ 181 ∨ q ≠ 53) → h' c q = h c q := by
          obtain ⟨h3, M3, t3, z1, z2, z3, z6, z4, z5⟩ := ih (j + 1) N h2' (Ls ++ M1 ++ M2) t2 (by omega) (by omega) (by rw [List.length_append, List.length_append]; omega) y2 (fun z => ⟨(y4 z).1, _, ap_VL hw ho vj.2 vi.2, Gen_ap ho gj gi, (y4 z).2⟩)
          refine ⟨h3, M1 ++ M2 ++ M3, t3, z1, by rw [← List.append_assoc, ← List.append_assoc]; exact z2, fun q => absurd q (by decide), by rw [← List.append_assoc, ← List.append_assoc]; exact z6, fun t q q1 q2 => ?_, fun c q w y => by rw [z5 c q w y, y5 c q w y, x5 c q w y]⟩
          rw [← List.append_assoc, ← List.append_assoc]
          have t2t : t2 = true := by
            cases t2 with
            | true => rfl
            | false => rw [z3 rfl] at t; exact absurd t (by decide)
          by_cases w : q = j
          · subst w
            exact ⟨List.mem_append_left _ (List.mem_append_left _ (x3 rfl)), List.mem_append_left _ (y3 t2t)⟩
          · have := z4 t q (by omega) q2
            rw [List.append_assoc Ls, gdl_app hi, gdl_app (by omega)] at this
            rw [List.append_assoc Ls]
            exact this
        cases t2 with
        | true => rw [if_neg (show ¬ bi true = 0 by decide)]; exact fin
        | false => rw [if_pos (show bi false = 0 from rfl)]; exact fin
/-- what the reference has done for function i and operation o -/
def PRo (tb : Nat → Nat → Int) (n : Nat) (ar : List Nat) (o i : Nat) (Ls : List (List Nat)) : Prop := (ar.getD o 0 = 1 → apL tb n ar o (Ls.getD i []) (Ls.getD i []) ∈ Ls) ∧ (ar.getD o 0 = 2 → ∀ j, j ≤ i → apL tb n ar o (Ls.getD i []) (Ls.getD j []) ∈ Ls ∧ apL tb n ar o (Ls.getD j []) (Ls.getD i []) ∈ Ls)
theorem PR_app {o i : Nat} {Ls Ms : List (List Nat)} (hi : i < Ls.length) (h : PRo tb n ar o i Ls) : PRo tb n ar o i (Ls ++ Ms) := by
  refine ⟨fun z => ?_, fun z j hj => ?_⟩
  · rw [gdl_app hi]; exact List.mem_append_left _ (h.1 z)
  · rw [gdl_app hi, gdl_app (by omega)]
    exact ⟨List.mem_append_left _ (h.2 z j hj).1, List.mem_append_left _ (h.2 z j hj).2⟩
theorem zro_VL (hn : 1 ≤ n) : VLn n (List.replicate n 0) := ⟨List.length_replicate, fun i _ => by rw [zer_get]; omega⟩
theorem zro_cd : cdL n (List.replicate n 0) = 0 := by
  unfold cdL
  have : ∀ m, cdR (List.replicate n 0) 0 0 m = 0 := by
    intro m
    induction m with
    | zero => rfl
    | succ m ih => rw [cdR_snoc, ih, zer_get]
  exact this n
theorem f109 (hF : 302 ≤ F) (hd : d < 10) (hw : WF n ar tb) {i : Nat} {k242 : Int → Int → HF → RO} : ∀ (m o N : Nat) (h : HF) (Ls : List (List Nat)) (ft : Bool), o + m = ar.length → m + 1 ≤ N → i < Ls.length → FRs h d n ar tb Ls → (ft = false → Ovf tb n ar Ls) → ∃ (h' : HF) (Ms : List (List Nat)) (ft' : Bool), LX12_findFunctions_109 F 181 (d : Int) (i : Int) k242 N (bi ft) (o : Int) h = k242 (bi ft') (i : Int) h' ∧ FRs h' d n ar tb (Ls ++ Ms) ∧ (ft = false → ft' = false) ∧ (ft' = false → Ovf tb n ar (Ls ++ Ms)) ∧ (ft' = true → ∀ o', o ≤ o' → o' < ar.length → PRo tb n ar o' i (Ls ++ Ms)) ∧ ∀ c q, (c < 215 ∨ 216 < c) → (c ≠ 181 ∨ q ≠ 53) → h' c q = h c q := by
  have hn := hw.1
  have hl4 := hw.2.1
  intro m
  induction m with
  | zero =>
    intro o N h Ls ft ho hN hi hS hO
    obtain ⟨N, rfl⟩ : ∃ M, N = M + 1 := ⟨N - 1, by omega⟩
    refine ⟨h, [], ft, ?_, by rw [List.append_nil]; exact hS, fun z => z, by rw [List.append_nil]; exact hO, fun _ q q1 q2 => absurd q1 (by omega), fun _ _ _ _ => rfl⟩
    rw [LX12_findFunctions_109, mops hd hS.2.2.1, if_neg (by omega)]
  | succ m ih =>
    intro o N h Ls ft ho hN hi hS hO
    obtain ⟨N, rfl⟩ : ∃ M, N = M + 1 := ⟨N - 1, by omega⟩
    have l300 := hS.2.2.2.2.1
    have ho' : o < ar.length := by omega
    have r2 := hw.2.2.1 o ho'
    rw [LX12_findFunctions_109, mops hd hS.2.2.1, if_pos (by omega)]
    cases ft with
    | false =>
      rw [if_pos (show bi false = 0 from rfl)]
      exact ⟨h, [], false, rfl, by rw [List.append_nil]; exact hS, fun _ => rfl, by rw [List.append_nil]; exact hO, fun z => absurd z (by decide), fun _ _ _ _ => rfl⟩
    | true =>
      rw [if_neg (show ¬ bi true = 0 by decide), marity_eq hd hw hS.2.2.1 ho', zbd_some]
      simp only [zjn_eq, zlet_eq]
      obtain ⟨vi, gi⟩ := hS.2.2.2.2.2 _ (gdl_mem hi)
      -- the loop of two arguments, and the rest
      have rest : ∀ (h1 : HF) (M1 : List (List Nat)) (t1 : Bool), FRs h1 d n ar tb (Ls ++ M1) → (t1 = false → Ovf tb n ar (Ls ++ M1)) → (t1 = true → ar.getD o 0 = 1 → apL tb n ar o (Ls.getD i []) (Ls.getD i []) ∈ Ls ++ M1) → (∀ c q, (c < 215 ∨ 216 < c) → (c ≠ 181 ∨ q ≠ 53) → h1 c q = h c q) → ∃ (h' : HF) (Ms : List (List Nat)) (ft' : Bool), LX12_findFunctions_154 F 181 (d : Int) (i : Int) (o : Int) (fun x236_3 x236_5 h => LX12_findFunctions_109 F 181 (d : Int) (i : Int) k242 N x236_3 (wr (x236_5 + 1)) h) F (bi t1) 0 h1 = k242 (bi ft') (i : Int) h' ∧ FRs h' d n ar tb (Ls ++ Ms) ∧ (true = false → ft' = false) ∧ (ft' = false → Ovf tb n ar (Ls ++ Ms)) ∧ (ft' = true → ∀ o', o ≤ o' → o' < ar.length → PRo tb n ar o' i (Ls ++ Ms)) ∧ ∀ c q, (c < 215 ∨ 216 < c) → (c ≠ 181 ∨ q ≠ 53) → h' c q = h c q := fun h1 M1 t1 S1 O1 P1 K1 => by
        have hi1 : i < (Ls ++ M1).length := by rw [List.length_append]; omega
        have l1 : (Ls ++ M1).length ≤ 300 := S1.2.2.2.2.1
        -- behind the loop
        have go : ∀ (h2 : HF) (M2 : List (List Nat)) (t2 : Bool), FRs h2 d n ar tb (Ls ++ M1 ++ M2) → (t1 = false → t2 = false) → (t2 = false → Ovf tb n ar (Ls ++ M1 ++ M2)) → (t2 = true → PRo tb n ar o i (Ls ++ M1 ++ M2)) → (∀ c q, (c < 215 ∨ 216 < c) → (c ≠ 181 ∨ q ≠ 53) → h2 c q = h1 c q) → ∃ (h' : HF) (Ms : List (List Nat)) (ft' : Bool), LX12_findFunctions_109 F 181 (d : Int) (i : Int) k242 N (bi t2) ((o + 1 : Nat) : Int) h2 = k242 (bi ft') (i : Int) h' ∧ FRs h' d n ar tb (Ls ++ Ms) ∧ (true = false → ft' = false) ∧ (ft' = false → Ovf tb n ar (Ls ++ Ms)) ∧ (ft' = true → ∀ o', o ≤ o' → o' < ar.length → PRo tb n ar o' i (Ls ++ Ms)) ∧ ∀ c q, (c < 215 ∨ 216 < c) → (c ≠ 181 ∨ q ≠ 53) → h' c q = h c q := fun h2 M2 t2 S2 _ O2 P2 K2 => by
          obtain ⟨h3, M3, t3, z1, z2, z3, z6, z4, z5⟩ := ih (o + 1) N h2 (Ls ++ M1 ++ M2) t2 (by omega) (by omega) (by rw [List.length_append]; omega) S2 O2
          refine ⟨h3, M1 ++ M2 ++ M3, t3, z1, by rw [← List.append_assoc, ← List.append_assoc]; exact z2, fun q => absurd q (by decide), by rw [← List.append_assoc, ← List.append_assoc]; exact z6, fun t o' q1 q2 => ?_, fun c q w y => by rw [z5 c q w y, K2 c q w y, K1 c q w y]⟩
          rw [← List.append_assoc, ← List.append_assoc]
          have t2t : t2 = true := by
            cases t2 with
            | true => rfl
            | false => rw [z3 rfl] at t; exact absurd t (by decide)
          by_cases w : o' = o
          · subst w
            exact PR_app (by rw [List.length_append]; omega) (P2 t2t)
          · exact z4 t o' (by omega) q2
        by_cases q2 : ar.getD o 0 = 2
        · obtain ⟨h2, M2, t2, y1, y2, y3, y6, y4, y5⟩ := f154 (F := F) hF hd hw ho' q2 (k236 := fun x236_3 x236_5 h => LX12_findFunctions_109 F 181 (d : Int) (i : Int) k242 N x236_3 (wr (x236_5 + 1)) h) (i + 1) 0 F h1 (Ls ++ M1) t1 (by omega) (by omega) hi1 S1 O1
          obtain ⟨h', Ms, ft', w1, w2⟩ := go h2 M2 t2 y2 y3 y6 (fun t => ⟨fun z => absurd z (by omega), fun _ j hj => by
            have := y4 t j (by omega) hj
            rw [gdl_app (Ms := M2) hi1, gdl_app (Ms := M2) (by omega)]
            exact this⟩) y5
          refine ⟨h', Ms, ft', ?_, w2⟩
          refine y1.trans ?_
          rw [wr_s (by omega)]
          exact w1
        · obtain ⟨h', Ms, ft', w1, w2⟩ := go h1 [] t1 (by rw [List.append_nil]; exact S1) (fun z => z) (by rw [List.append_nil]; exact O1) (fun t => by
            rw [List.append_nil]
            refine ⟨fun z => ?_, fun z => absurd z q2⟩
            rw [gdl_app hi]
            exact P1 t z) (fun _ _ _ _ => rfl)
          refine ⟨h', Ms, ft', ?_, w2⟩
          obtain ⟨N1, e1⟩ : ∃ N1, F = N1 + 1 := ⟨F - 1, by omega⟩
          have L0 : ∀ k236 : Int → Int → HF → RO, LX12_findFunctions_154 F 181 (d : Int) (i : Int) (o : Int) k236 F (bi t1) 0 h1 = k236 (bi t1) (o : Int) h1 := fun k236 => by
            rw [show LX12_findFunctions_154 F 181 (d : Int) (i : Int) (o : Int) k236 F (bi t1) 0 h1 = LX12_findFunctions_154 F 181 (d : Int) (i : Int) (o : Int) k236 (N1 + 1) (bi t1) 0 h1 by rw [← e1], LX12_findFunctions_154, if_neg (by omega), marity_eq hd hw S1.2.2.1 ho', zbd_some, if_neg (by omega)]
          rw [L0, wr_s (by omega)]
          exact w1
      by_cases q1 : ar.getD o 0 = 1
      · have ec : apL tb n ar o (Ls.getD i []) (List.replicate n 0) = apL tb n ar o (Ls.getD i []) (Ls.getD i []) := ap_congr (fun _ => rfl) (fun z => absurd z (by omega))
        obtain ⟨h1, M1, t1, x1, x2, x3, x4, x5⟩ := work_eq (F := F) hF hd hw ho' vi (zro_VL hn.1) (by rw [ec]; exact Gen_ap ho' gi gi) hS
        rw [zro_cd] at x1
        have x1' : fX12_work F 181 (d : Int) (o : Int) (cdL n (Ls.getD i []) : Int) 0 h = some (bi t1, h1) := x1
        rw [if_pos (by omega), rdm34 (by omega), hS.2.1 i hi, x1', zbd_some]
        exact rest h1 M1 t1 x2 (fun z => ⟨(x4 z).1, _, ap_VL hw ho' vi.2 (zro_VL hn.1).2, by rw [ec]; exact Gen_ap ho' gi gi, (x4 z).2⟩) (fun z _ => by rw [← ec]; exact x3 z) x5
      · rw [if_neg (by omega)]
        exact rest h [] true (by rw [List.append_nil]; exact hS) (fun z => absurd z (by decide)) (fun _ z => absurd z q1) (fun _ _ _ _ => rfl)
end FR
