/-! functions: the class -/
theorem gdl_lt {Ls : List (List Nat)} {l : List Nat} {i : Nat} (hi : i < Ls.length) : (Ls ++ [l]).getD i [] = Ls.getD i [] := by
  rw [List.getD_eq_getElem?_getD, List.getD_eq_getElem?_getD, List.getElem?_append_left hi]
theorem gdl_eq {Ls : List (List Nat)} {l : List Nat} : (Ls ++ [l]).getD Ls.length [] = l := by
  rw [List.getD_eq_getElem?_getD, List.getElem?_append_right (Nat.le_refl _), Nat.sub_self]; rfl
theorem gdl_mem {Ls : List (List Nat)} {i : Nat} (hi : i < Ls.length) : Ls.getD i [] ∈ Ls := by
  rw [List.getD_eq_getElem?_getD, List.getElem?_eq_getElem hi]
  exact List.getElem_mem hi
theorem gdl_app {Ls Ms : List (List Nat)} {i : Nat} (hi : i < Ls.length) : (Ls ++ Ms).getD i [] = Ls.getD i [] := by
  rw [List.getD_eq_getElem?_getD, List.getD_eq_getElem?_getD, List.getElem?_append_left hi]
theorem mem_gdl {Ls : List (List Nat)} {x : List Nat} (h : x ∈ Ls) : ∃ i, i < Ls.length ∧ Ls.getD i [] = x := by
  obtain ⟨i, hi, e⟩ := List.mem_iff_getElem.mp h
  exact ⟨i, hi, by rw [List.getD_eq_getElem?_getD, List.getElem?_eq_getElem hi]; exact e⟩
section FN
variable {F n A : Nat} {ar : List Nat} {tb : Nat → Nat → Int}
/-- the whole state of the class's search -/
def FS (h : HF) (A n : Nat) (ar : List Nat) (tb : Nat → Nat → Int) (Ls : List (List Nat)) (tm : Bool) : Prop := FCl h A n Ls ∧ h 110 2 = bi tm ∧ RepC h A n ar tb ∧ FL tb n ar Ls ∧ (tm = true → Ls.length = 300 ∧ ∃ x, VLn n x ∧ Gen tb n ar x ∧ x ∉ Ls)
/-- a line is added, if it is new -/
theorem addLine_eq {h : HF} {Ls : List (List Nat)} {tm : Bool} {l : List Nat} (hF : 302 ≤ F) (hA : 117 ≤ A) (hn : 1 ≤ n ∧ n ≤ 7) (hS : FS h A n ar tb Ls tm) (hL : LN h 113 l) (hl : VLn n l) (hg : Gen tb n ar l) : ∃ (h' : HF) (Ms : List (List Nat)) (tm' : Bool), fX9_addLine F 110 h = some (0, h') ∧ FS h' A n ar tb (Ls ++ Ms) tm' ∧ (tm = true → tm' = true) ∧ (tm' = false → l ∈ Ls ++ Ms) ∧ (Ls.length < 300 → tm = false → tm' = false) ∧ ∀ c i, (c < 110 ∨ 112 < c) → h' c i = h c i := by
  obtain ⟨⟨f1, f2, f3, cs, f4, f5, f6, f7⟩, t2, hr, ⟨g1, g2, g3⟩, g4⟩ := hS
  have hl7 := VL_7 hn.2 hl
  have en : fX11_encode F (110 + 3) (n : Int) h = some ((cdL n l : Int), h) := encode_eq (by omega) k113 hL hl.1 hn.2 (fun i _ => hl7 i)
  obtain ⟨p, x1, x2, x3, x4⟩ := placeOf_eq (F := F) (c := cdL n l) hF (by omega) (by rw [f4]; exact f2) f5 f6
  -- where it stands already
  have isin : (p < cs.length ∧ cs.getD p 0 = cdL n l) ↔ l ∈ Ls := by
    constructor
    · rintro ⟨z1, z2⟩
      have : cdL n l ∈ cs := by rw [← z2, List.getD_eq_getElem?_getD, List.getElem?_eq_getElem z1]; exact List.getElem_mem z1
      obtain ⟨l', h1, h2⟩ := (f7 _).mp this
      rw [← cdL_inj hn.2 (g3 l' h1).1 hl h2]; exact h1
    · intro z
      have : cdL n l ∈ cs := (f7 _).mpr ⟨l, z, rfl⟩
      obtain ⟨k, hk, ek⟩ := List.mem_iff_getElem.mp this
      have ek' : cs.getD k 0 = cdL n l := by rw [List.getD_eq_getElem?_getD, List.getElem?_eq_getElem hk]; exact ek
      have k1 : ¬ k < p := fun y => by have := x3 k y; omega
      by_cases y : p = k
      · subst y; exact ⟨hk, ek'⟩
      · have h1 := f5 p k (by omega) hk
        have h2 := x4 p (Nat.le_refl _) (by omega)
        omega
  have st : fX9_addLine F 110 h = if l ∈ Ls then some (0, h) else if Ls.length < 300 then (zcp h (110 + 1) (p : Int) (110 + 1) (wr ((p : Int) + 1)) (wr ((Ls.length : Int) - (p : Int))) fun h => zwr h (110 + 1) (p : Int) (cdL n l : Int) fun h => zgf h 110 1 fun x8 => zgd h 110 5 fun x9 => zgf h x9 0 fun x10 => zcp h (110 + 3) 0 (110 + 2) (wr (x8 * 7)) x10 fun h => zgf h 110 1 fun x11 => zpf h 110 1 (wr (x11 + 1)) fun h => some (0, h)) else some (0, stp h 110 2 1) := by
    unfold fX9_addLine
    rw [zgd_at f1, zgf_eq, hr.1, en, zbd_some, x1, zbd_some, zgf_eq, f2, zjn_eq]
    have tail : (zgf h 110 1 fun x6 => if x6 < 300 then (zgf h 110 1 fun x7 => zcp h (110 + 1) (p : Int) (110 + 1) (wr ((p : Int) + 1)) (wr (x7 - (p : Int))) fun h => zwr h (110 + 1) (p : Int) (cdL n l : Int) fun h => zgf h 110 1 fun x8 => zgd h 110 5 fun x9 => zgf h x9 0 fun x10 => zcp h (110 + 3) 0 (110 + 2) (wr (x8 * 7)) x10 fun h => zgf h 110 1 fun x11 => zpf h 110 1 (wr (x11 + 1)) fun h => some (0, h)) else (zpz h 110 2 1 fun h => some (0, h))) = if Ls.length < 300 then (zcp h (110 + 1) (p : Int) (110 + 1) (wr ((p : Int) + 1)) (wr ((Ls.length : Int) - (p : Int))) fun h => zwr h (110 + 1) (p : Int) (cdL n l : Int) fun h => zgf h 110 1 fun x8 => zgd h 110 5 fun x9 => zgf h x9 0 fun x10 => zcp h (110 + 3) 0 (110 + 2) (wr (x8 * 7)) x10 fun h => zgf h 110 1 fun x11 => zpf h 110 1 (wr (x11 + 1)) fun h => some (0, h)) else some (0, stp h 110 2 1) := by
      rw [zgf_eq, f2]
      by_cases z : Ls.length < 300
      · rw [if_pos (by omega), if_pos z, zgf_eq, f2]
      · rw [if_neg (by omega), if_neg z, zpz_1]
    by_cases y : (p : Int) < (Ls.length : Int)
    · rw [if_pos y, rd111 (by omega), f6 p (by omega)]
      by_cases z : cs.getD p 0 = cdL n l
      · rw [if_pos (by omega), if_pos (isin.mp ⟨by omega, z⟩)]
      · rw [if_neg (by omega), if_neg (fun w => z (isin.mpr w).2)]
        exact tail
    · rw [if_neg y, if_neg (fun w => absurd (isin.mpr w).1 (by omega))]
      exact tail
  rw [st]
  by_cases q : l ∈ Ls
  · rw [if_pos q]
    exact ⟨h, [], tm, rfl, by rw [List.append_nil]; exact ⟨⟨f1, f2, f3, cs, f4, f5, f6, f7⟩, t2, hr, ⟨g1, g2, g3⟩, g4⟩, fun z => z, fun _ => by rw [List.append_nil]; exact q, fun _ z => z, fun _ _ _ => rfl⟩
  · rw [if_neg q]
    by_cases q3 : Ls.length < 300
    · have tmf : tm = false := by
        cases tm with
        | false => rfl
        | true => have := (g4 rfl).1; omega
      rw [if_pos q3, wr_s (by omega), wr_id ⟨by omega, by omega⟩, show (Ls.length : Int) - (p : Int) = ((Ls.length - p : Nat) : Int) by omega, zcp_at (by rw [show kl (110 + 1) = 300 from k111]; omega) (by rw [show kl (110 + 1) = 300 from k111]; omega), wt111 (by omega)]
      generalize hg1 : stp (cpy h (110 + 1) p (110 + 1) (p + 1) (Ls.length - p)) 111 p (cdL n l : Int) = h1
      have k1 : ∀ c i, c ≠ 111 → h1 c i = h c i := fun c i z => by rw [← hg1, stp_ne (Or.inl z), cpy_off (by omega)]
      rw [zgf_eq, k1 _ _ (by omega), f2, zgd_at (v := A) (by rw [k1 _ _ (by omega)]; exact f1), zgf_eq, k1 _ _ (by omega), hr.1, wr_id ⟨by omega, by omega⟩, show (Ls.length : Int) * 7 = ((7 * Ls.length : Nat) : Int) by omega]
      have zz : ∀ f : HF → RO, zcp h1 (110 + 3) 0 (110 + 2) ((7 * Ls.length : Nat) : Int) (n : Int) f = f (cpy h1 113 0 112 (7 * Ls.length) n) := fun f => zcp_at (sp := 0) (by rw [show kl (110 + 3) = 7 from k113]; omega) (by rw [show kl (110 + 2) = 2100 from k112]; omega)
      rw [zz]
      generalize hg2 : cpy h1 113 0 112 (7 * Ls.length) n = h2
      have k2 : ∀ c i, c ≠ 112 → h2 c i = h1 c i := fun c i z => by rw [← hg2, cpy_off z]
      have k3 : ∀ i, i < 7 * Ls.length → h2 112 i = h 112 i := fun i hi => by
        rw [← hg2]
        unfold cpy
        rw [if_pos rfl, if_neg (by omega), k1 _ _ (by omega)]
      have k4 : ∀ e, e < n → h2 112 (7 * Ls.length + e) = (l.getD e 0 : Int) := fun e he => by
        rw [← hg2]
        unfold cpy
        rw [if_pos rfl, if_pos (by omega), k1 _ _ (by omega), show 0 + (7 * Ls.length + e - 7 * Ls.length) = e by omega]
        exact hL e (by have := hl.1; omega)
      rw [zgf_eq, k2 _ _ (by omega), k1 _ _ (by omega), f2, wr_s (by omega), zpf_eq]
      refine ⟨stp h2 110 1 ((Ls.length + 1 : Nat) : Int), [l], false, rfl, ⟨⟨?_, ?_, fun i hi e he => ?_, insC cs p (cdL n l), ?_, ?_, fun k hk => ?_, fun c => ?_⟩, ?_, ?_, ⟨?_, ?_, fun l' hl' => ?_⟩, fun z => absurd z (by decide)⟩, fun z => absurd (tmf ▸ z) (by decide), fun _ => by simp, fun _ _ => rfl, fun c i z => ?_⟩
      · rw [stp_ne (by omega), k2 _ _ (by omega), k1 _ _ (by omega)]; exact f1
      · rw [stp_eq, List.length_append]; rfl
      · rw [List.length_append, List.length_singleton] at hi
        rw [stp_ne (by omega)]
        by_cases z : i = Ls.length
        · subst z; rw [gdl_eq, k4 e he]
        · rw [gdl_lt (by omega), k3 _ (by omega)]; exact f3 i (by omega) e he
      · rw [ins_len x2, f4, List.length_append]; rfl
      · refine ins_SO x2 f5 x3 (fun k z1 z2 => ?_)
        have h1 := x4 k z1 z2
        by_cases y : cs.getD k 0 = cdL n l
        · exfalso
          have : p = k ∨ p < k := by omega
          rcases this with y1 | y1
          · subst y1; exact q (isin.mp ⟨z2, y⟩)
          · have h2 := f5 p k y1 z2
            have h3 := x4 p (Nat.le_refl _) (by omega)
            omega
        · omega
      · rw [ins_len x2] at hk
        rw [stp_ne (by omega), k2 _ _ (by omega), ← hg1, ins_get x2]
        by_cases z : k = p
        · rw [if_neg (by omega), if_pos z, z, stp_eq]
        · rw [stp_ne (by omega)]
          unfold cpy
          rw [if_pos (show (111 : Nat) = 110 + 1 from rfl)]
          by_cases y : k < p
          · rw [if_neg (by omega), if_pos y]; exact f6 k (by omega)
          · rw [if_pos (by omega), if_neg y, if_neg z, show p + (k - (p + 1)) = k - 1 by omega]; exact f6 (k - 1) (by omega)
      · rw [ins_mem, f7]
        constructor
        · rintro (z | ⟨l', z1, z2⟩)
          · exact ⟨l, by simp, z.symm⟩
          · exact ⟨l', by simp [z1], z2⟩
        · rintro ⟨l', z1, z2⟩
          rcases List.mem_append.mp z1 with z | z
          · exact Or.inr ⟨l', z, z2⟩
          · rw [List.mem_singleton] at z; subst z; exact Or.inl z2.symm
      · rw [stp_ne (by omega), k2 _ _ (by omega), k1 _ _ (by omega), t2, tmf]
      · exact RepC_keep (fun i k hi => by rw [stp_ne (by omega), k2 _ _ (by omega), k1 _ _ (by omega)]) hr
      · rw [List.nodup_append]
        exact ⟨g1, by simp, fun a ha b hb e => q (by rw [List.mem_singleton] at hb; rw [← hb, ← e]; exact ha)⟩
      · rw [List.length_append, List.length_singleton]; omega
      · rcases List.mem_append.mp hl' with z | z
        · exact g3 l' z
        · rw [List.mem_singleton] at z; subst z; exact ⟨hl, hg⟩
      · rw [stp_ne (by omega), k2 _ _ (by omega), k1 _ _ (by omega)]
    · rw [if_neg q3]
      refine ⟨stp h 110 2 1, [], true, rfl, ?_, fun _ => rfl, fun z => absurd z (by decide), fun z => absurd z q3, fun c i z => stp_ne (by omega)⟩
      rw [List.append_nil]
      exact ⟨⟨by rw [stp_ne (by omega)]; exact f1, by rw [stp_ne (by omega)]; exact f2, fun i hi e he => by rw [stp_ne (by omega)]; exact f3 i hi e he, cs, f4, f5, fun k hk => by rw [stp_ne (by omega)]; exact f6 k hk, f7⟩, stp_eq _ _ _ _, RepC_keep (fun i k hi => stp_ne (by omega)) hr, ⟨g1, g2, g3⟩, fun _ => ⟨by omega, l, hl, hg, q⟩⟩
theorem FS_keep {h h' : HF} {Ls : List (List Nat)} {tm : Bool} (hA : 117 ≤ A) (e : ∀ c i, c ≠ 113 → h' c i = h c i) (hS : FS h A n ar tb Ls tm) : FS h' A n ar tb Ls tm := by
  obtain ⟨⟨f1, f2, f3, cs, f4, f5, f6, f7⟩, t2, hr, g⟩ := hS
  exact ⟨⟨by rw [e _ _ (by omega)]; exact f1, by rw [e _ _ (by omega)]; exact f2, fun i hi q hq => by rw [e _ _ (by omega)]; exact f3 i hi q hq, cs, f4, f5, fun k hk => by rw [e _ _ (by omega)]; exact f6 k hk, f7⟩, by rw [e _ _ (by omega)]; exact t2, RepC_keep (fun i k hi => e _ _ (by omega)) hr, g⟩
theorem comb_L {Ls : List (List Nat)} {tm : Bool} (hA : 117 ≤ A) (hk : kt A = 0 + 3) (hw : WF n ar tb) {o i j : Nat} (ho : o < ar.length) (hi : i < Ls.length) (hj : j < Ls.length) {k68 : HF → RO} : ∀ (m e N : Nat) (h : HF), e + m = n → m + 1 ≤ N → FS h A n ar tb Ls tm → (∀ q, q < e → h 113 q = ((apL tb n ar o (Ls.getD i []) (Ls.getD j [])).getD q 0 : Int)) → ∃ h', LX9_combine_15 F 110 (o : Int) ((7 * i : Nat) : Int) ((7 * j : Nat) : Int) k68 N (e : Int) h = k68 h' ∧ LN h' 113 (apL tb n ar o (Ls.getD i []) (Ls.getD j [])) ∧ ∀ c q, c ≠ 113 → h' c q = h c q := by
  have hn := hw.1
  intro m
  induction m with
  | zero =>
    intro e N h he hN hS hp
    obtain ⟨N, rfl⟩ : ∃ M, N = M + 1 := ⟨N - 1, by omega⟩
    refine ⟨h, ?_, fun q hq => hp q ?_, fun _ _ _ => rfl⟩
    · rw [LX9_combine_15, zgd_at hS.1.1, zgf_eq, hS.2.2.1.1, if_neg (by omega)]
    · unfold apL at hq; rw [List.length_map, List.length_range] at hq; omega
  | succ m ih =>
    intro e N h he hN hS hp
    obtain ⟨N, rfl⟩ : ∃ M, N = M + 1 := ⟨N - 1, by omega⟩
    have l300 := hS.2.2.2.1.2.1
    have vi := (hS.2.2.2.1.2.2 _ (gdl_mem hi)).1
    have vj := (hS.2.2.2.1.2.2 _ (gdl_mem hj)).1
    rw [LX9_combine_15, zgd_at hS.1.1, zgf_eq, hS.2.2.1.1, if_pos (by omega), zgd_at hS.1.1, wr_id ⟨by omega, by omega⟩, show ((7 * i : Nat) : Int) + (e : Int) = ((7 * i + e : Nat) : Int) by omega, rd112 (by omega), hS.1.2.2.1 i hi e (by omega), wr_id ⟨by omega, by omega⟩, show ((7 * j : Nat) : Int) + (e : Int) = ((7 * j + e : Nat) : Int) by omega, rd112 (by omega), hS.1.2.2.1 j hj e (by omega), cval hk hw hS.2.2.1 ho (vi.2 e (by omega)) (vj.2 e (by omega)), zbd_some, wt113 (by omega), zlet_eq, wr_s (by omega)]
    obtain ⟨h', x1, x2, x3⟩ := ih (e + 1) N (stp h 113 e ((vl tb n ar o ((Ls.getD i []).getD e 0) ((Ls.getD j []).getD e 0) : Nat) : Int)) (by omega) (by omega) (FS_keep hA (fun c q z => stp_ne (Or.inl z)) hS) (fun q hq => by
      by_cases z : q = e
      · subst z; rw [stp_eq, ap_get (by omega)]
      · rw [stp_ne (by omega)]; exact hp q (by omega))
    exact ⟨h', x1, x2, fun c q z => by rw [x3 c q z, stp_ne (Or.inl z)]⟩
theorem combine_eq {h : HF} {Ls : List (List Nat)} {tm : Bool} (hF : 302 ≤ F) (hA : 117 ≤ A) (hk : kt A = 0 + 3) (hw : WF n ar tb) {o i j : Nat} (ho : o < ar.length) (hi : i < Ls.length) (hj : j < Ls.length) (hS : FS h A n ar tb Ls tm) : ∃ (h' : HF) (Ms : List (List Nat)) (tm' : Bool), fX9_combine F 110 (o : Int) (i : Int) (j : Int) h = some (0, h') ∧ FS h' A n ar tb (Ls ++ Ms) tm' ∧ (tm = true → tm' = true) ∧ (tm' = false → apL tb n ar o (Ls.getD i []) (Ls.getD j []) ∈ Ls ++ Ms) ∧ ∀ c q, (c < 110 ∨ 113 < c) → h' c q = h c q := by
  have hn := hw.1
  have l300 := hS.2.2.2.1.2.1
  obtain ⟨vi, gi⟩ := hS.2.2.2.1.2.2 _ (gdl_mem hi)
  obtain ⟨vj, gj⟩ := hS.2.2.2.1.2.2 _ (gdl_mem hj)
  obtain ⟨h1, x1, x2, x3⟩ := comb_L (F := F) (tm := tm) hA hk hw ho hi hj (k68 := fun h => zbd (fX9_addLine F 110 h) fun _ h => some (0, h)) n 0 F h (by omega) (by omega) hS (fun q hq => absurd hq (by omega))
  obtain ⟨h2, Ms, tm', y1, y2, y3, y4, -, y5⟩ := addLine_eq (F := F) hF hA hn (FS_keep hA x3 hS) x2 (ap_VL hw ho vi.2 vj.2) (Gen_ap ho gi gj)
  refine ⟨h2, Ms, tm', ?_, y2, y3, y4, fun c q z => by rw [y5 c q (by omega), x3 c q (by omega)]⟩
  unfold fX9_combine
  rw [wr_id ⟨by omega, by omega⟩, wr_id ⟨by omega, by omega⟩, zlet_eq, zlet_eq, zjn_eq, show (i : Int) * 7 = ((7 * i : Nat) : Int) by omega, show (j : Int) * 7 = ((7 * j : Nat) : Int) by omega]
  refine x1.trans ?_
  rw [y1, zbd_some]
/-- what is done for function i and operation o -/
def PUo (tb : Nat → Nat → Int) (n : Nat) (ar : List Nat) (o i : Nat) (Ls : List (List Nat)) : Prop := (ar.getD o 0 < 2 → apL tb n ar o (Ls.getD i []) (Ls.getD i []) ∈ Ls) ∧ (ar.getD o 0 = 2 → ∀ j, j ≤ i → apL tb n ar o (Ls.getD i []) (Ls.getD j []) ∈ Ls ∧ apL tb n ar o (Ls.getD j []) (Ls.getD i []) ∈ Ls)
theorem PU_app {o i : Nat} {Ls Ms : List (List Nat)} (hi : i < Ls.length) (h : PUo tb n ar o i Ls) : PUo tb n ar o i (Ls ++ Ms) := by
  refine ⟨fun z => ?_, fun z j hj => ?_⟩
  · rw [gdl_app hi]; exact List.mem_append_left _ (h.1 z)
  · rw [gdl_app hi, gdl_app (by omega)]
    exact ⟨List.mem_append_left _ (h.2 z j hj).1, List.mem_append_left _ (h.2 z j hj).2⟩
theorem upTo_L (hF : 302 ≤ F) (hA : 117 ≤ A) (hk : kt A = 0 + 3) (hw : WF n ar tb) {o i : Nat} (ho : o < ar.length) {k55 : HF → RO} : ∀ (m j N : Nat) (h : HF) (Ls : List (List Nat)) (tm : Bool), j + m = i + 1 → m + 1 ≤ N → i < Ls.length → FS h A n ar tb Ls tm → ∃ (h' : HF) (Ms : List (List Nat)) (tm' : Bool), LX9_combineUpTo_23 F 110 (o : Int) (i : Int) k55 N (j : Int) h = k55 h' ∧ FS h' A n ar tb (Ls ++ Ms) tm' ∧ (tm = true → tm' = true) ∧ (tm' = false → ∀ q, j ≤ q → q ≤ i → apL tb n ar o (Ls.getD i []) (Ls.getD q []) ∈ Ls ++ Ms ∧ apL tb n ar o (Ls.getD q []) (Ls.getD i []) ∈ Ls ++ Ms) ∧ ∀ c q, (c < 110 ∨ 113 < c) → h' c q = h c q := by
  intro m
  induction m with
  | zero =>
    intro j N h Ls tm hj hN hi hS
    obtain ⟨N, rfl⟩ : ∃ M, N = M + 1 := ⟨N - 1, by omega⟩
    refine ⟨h, [], tm, ?_, by rw [List.append_nil]; exact hS, fun z => z, fun _ q q1 q2 => absurd q1 (by omega), fun _ _ _ => rfl⟩
    rw [LX9_combineUpTo_23, if_pos (by omega)]
  | succ m ih =>
    intro j N h Ls tm hj hN hi hS
    obtain ⟨N, rfl⟩ : ∃ M, N = M + 1 := ⟨N - 1, by omega⟩
    have l300 := hS.2.2.2.1.2.1
    rw [LX9_combineUpTo_23, if_neg (by omega), zgf_eq, hS.2.1]
    cases tm with
    | true =>
      rw [if_neg (show ¬ bi true = 0 by decide)]
      exact ⟨h, [], true, rfl, by rw [List.append_nil]; exact hS, fun _ => rfl, fun z => absurd z (by decide), fun _ _ _ => rfl⟩
    | false =>
      rw [if_pos (show bi false = 0 from rfl)]
      obtain ⟨h1, M1, t1, x1, x2, x3, x4, x5⟩ := combine_eq (F := F) hF hA hk hw ho hi (show j < Ls.length by omega) hS
      obtain ⟨h2, M2, t2, y1, y2, y3, y4, y5⟩ := combine_eq (F := F) (i := j) (j := i) hF hA hk hw ho (show j < (Ls ++ M1).length by rw [List.length_append]; omega) (show i < (Ls ++ M1).length by rw [List.length_append]; omega) x2
      rw [gdl_app hi, gdl_app (by omega)] at y4
      rw [x1, zbd_some, y1, zbd_some, zlet_eq, wr_s (by omega)]
      obtain ⟨h3, M3, t3, z1, z2, z3, z4, z5⟩ := ih (j + 1) N h2 (Ls ++ M1 ++ M2) t2 (by omega) (by omega) (by rw [List.length_append, List.length_append]; omega) y2
      refine ⟨h3, M1 ++ M2 ++ M3, t3, z1, by rw [← List.append_assoc, ← List.append_assoc]; exact z2, fun q => absurd q (by decide), fun t q q1 q2 => ?_, fun c q w => by rw [z5 c q w, y5 c q w, x5 c q w]⟩
      rw [← List.append_assoc, ← List.append_assoc]
      have t2f : t2 = false := by
        cases t2 with
        | false => rfl
        | true => rw [z3 rfl] at t; exact absurd t (by decide)
      have t1f : t1 = false := by
        cases t1 with
        | false => rfl
        | true => rw [y3 rfl] at t2f; exact absurd t2f (by decide)
      by_cases w : q = j
      · subst w
        exact ⟨List.mem_append_left _ (List.mem_append_left _ (x4 t1f)), List.mem_append_left _ (y4 t2f)⟩
      · have := z4 t q (by omega) q2
        rw [List.append_assoc Ls, gdl_app hi, gdl_app (by omega)] at this
        rw [List.append_assoc Ls]
        exact this
theorem combineUpTo_eq {h : HF} {Ls : List (List Nat)} {tm : Bool} (hF : 302 ≤ F) (hA : 117 ≤ A) (hk : kt A = 0 + 3) (hw : WF n ar tb) {o i : Nat} (ho : o < ar.length) (hi : i < Ls.length) (hS : FS h A n ar tb Ls tm) : ∃ (h' : HF) (Ms : List (List Nat)) (tm' : Bool), fX9_combineUpTo F 110 (o : Int) (i : Int) h = some (0, h') ∧ FS h' A n ar tb (Ls ++ Ms) tm' ∧ (tm = true → tm' = true) ∧ (tm' = false → PUo tb n ar o i (Ls ++ Ms)) ∧ ∀ c q, (c < 110 ∨ 113 < c) → h' c q = h c q := by
  obtain ⟨-, kA, -⟩ := zl_0 A hk
  have hl4 := hw.2.1
  have l300 := hS.2.2.2.1.2.1
  unfold fX9_combineUpTo
  rw [zgd_at hS.1.1, zrd_ok (a := A + 1) ⟨by omega, by omega⟩, Int.toNat_natCast, hS.2.2.1.2.2.2.1 o ho]
  by_cases q : ar.getD o 0 < 2
  · obtain ⟨h1, M1, t1, x1, x2, x3, x4, x5⟩ := combine_eq (F := F) hF hA hk hw ho hi hi hS
    rw [if_pos (by omega), x1, zbd_some]
    exact ⟨h1, M1, t1, rfl, x2, x3, fun z => ⟨fun _ => by rw [gdl_app hi]; exact x4 z, fun w => absurd w (by omega)⟩, x5⟩
  · rw [if_neg (by omega), zjn_eq]
    obtain ⟨h1, M1, t1, x1, x2, x3, x4, x5⟩ := upTo_L (F := F) hF hA hk hw ho (k55 := fun h => some (0, h)) (i + 1) 0 F h Ls tm (by omega) (by omega) hi hS
    refine ⟨h1, M1, t1, x1, x2, x3, fun z => ⟨fun w => absurd w q, fun _ j hj => ?_⟩, x5⟩
    rw [gdl_app hi, gdl_app (by omega)]
    exact x4 z j (by omega) hj
theorem gop_L (hF : 302 ≤ F) (hA : 117 ≤ A) (hk : kt A = 0 + 3) (hw : WF n ar tb) {i : Nat} {k87 : Int → HF → RO} : ∀ (m o N : Nat) (h : HF) (Ls : List (List Nat)) (tm : Bool), o + m = ar.length → m + 1 ≤ N → i < Ls.length → FS h A n ar tb Ls tm → ∃ (h' : HF) (Ms : List (List Nat)) (tm' : Bool), LX9_gather_71 F 110 (i : Int) k87 N (o : Int) h = k87 (i : Int) h' ∧ FS h' A n ar tb (Ls ++ Ms) tm' ∧ (tm = true → tm' = true) ∧ (tm' = false → ∀ o', o ≤ o' → o' < ar.length → PUo tb n ar o' i (Ls ++ Ms)) ∧ ∀ c q, (c < 110 ∨ 113 < c) → h' c q = h c q := by
  have hl4 := hw.2.1
  intro m
  induction m with
  | zero =>
    intro o N h Ls tm ho hN hi hS
    obtain ⟨N, rfl⟩ : ∃ M, N = M + 1 := ⟨N - 1, by omega⟩
    refine ⟨h, [], tm, ?_, by rw [List.append_nil]; exact hS, fun z => z, fun _ q q1 q2 => absurd q1 (by omega), fun _ _ _ => rfl⟩
    rw [LX9_gather_71, zgd_at hS.1.1, zgf_eq, hS.2.2.1.2.1, if_neg (by omega)]
  | succ m ih =>
    intro o N h Ls tm ho hN hi hS
    obtain ⟨N, rfl⟩ : ∃ M, N = M + 1 := ⟨N - 1, by omega⟩
    obtain ⟨h1, M1, t1, x1, x2, x3, x4, x5⟩ := combineUpTo_eq (F := F) hF hA hk hw (show o < ar.length by omega) hi hS
    rw [LX9_gather_71, zgd_at hS.1.1, zgf_eq, hS.2.2.1.2.1, if_pos (by omega), x1, zbd_some, zlet_eq, wr_s (by omega)]
    obtain ⟨h3, M3, t3, z1, z2, z3, z4, z5⟩ := ih (o + 1) N h1 (Ls ++ M1) t1 (by omega) (by omega) (by rw [List.length_append]; omega) x2
    refine ⟨h3, M1 ++ M3, t3, z1, by rw [← List.append_assoc]; exact z2, fun q => z3 (x3 q), fun t o' q1 q2 => ?_, fun c q w => by rw [z5 c q w, x5 c q w]⟩
    rw [← List.append_assoc]
    have t1f : t1 = false := by
      cases t1 with
      | false => rfl
      | true => rw [z3 rfl] at t; exact absurd t (by decide)
    by_cases w : o' = o
    · subst w
      exact PU_app (by rw [List.length_append]; omega) (x4 t1f)
    · exact z4 t o' (by omega) q2
theorem gat_L (hF : 302 ≤ F) (hA : 117 ≤ A) (hk : kt A = 0 + 3) (hw : WF n ar tb) {k93 : HF → RO} : ∀ (m i N : Nat) (h : HF) (Ls : List (List Nat)) (tm : Bool), i + m = 300 → m + 1 ≤ N → i ≤ Ls.length → FS h A n ar tb Ls tm → (tm = false → ∀ i', i' < i → ∀ o, o < ar.length → PUo tb n ar o i' Ls) → ∃ (h' : HF) (Ms : List (List Nat)) (tm' : Bool), LX9_gather_47 F 110 k93 N (i : Int) h = k93 h' ∧ FS h' A n ar tb (Ls ++ Ms) tm' ∧ (tm' = false → ∀ i', i' < (Ls ++ Ms).length → ∀ o, o < ar.length → PUo tb n ar o i' (Ls ++ Ms)) ∧ ∀ c q, (c < 110 ∨ 113 < c) → h' c q = h c q := by
  have hl4 := hw.2.1
  intro m
  induction m with
  | zero =>
    intro i N h Ls tm hm hN hi hS hd
    obtain ⟨N, rfl⟩ : ∃ M, N = M + 1 := ⟨N - 1, by omega⟩
    have l300 := hS.2.2.2.1.2.1
    refine ⟨h, [], tm, ?_, by rw [List.append_nil]; exact hS, fun z i' hi' => by rw [List.append_nil] at hi' ⊢; exact hd z i' (by omega), fun _ _ _ => rfl⟩
    rw [LX9_gather_47, if_neg (by omega)]
  | succ m ih =>
    intro i N h Ls tm hm hN hi hS hd
    obtain ⟨N, rfl⟩ : ∃ M, N = M + 1 := ⟨N - 1, by omega⟩
    have l300 := hS.2.2.2.1.2.1
    rw [LX9_gather_47, if_pos (show (i : Int) < 300 by omega), zgf_eq, hS.1.2.1]
    by_cases q : i < Ls.length
    · rw [if_pos (by omega), zgf_eq, hS.2.1]
      cases tm with
      | true =>
        rw [if_neg (show ¬ bi true = 0 by decide)]
        exact ⟨h, [], true, rfl, by rw [List.append_nil]; exact hS, fun z => absurd z (by decide), fun _ _ _ => rfl⟩
      | false =>
        rw [if_pos (show bi false = 0 from rfl), zjn_eq]
        obtain ⟨h1, M1, t1, x1, x2, x3, x4, x5⟩ := gop_L (F := F) hF hA hk hw (k87 := fun (x87_2 : Int) (h : HF) => zlet (wr (x87_2 + 1)) fun x4 => LX9_gather_47 F 110 k93 N x4 h) ar.length 0 F h Ls false (by omega) (by omega) q hS
        obtain ⟨h3, M3, t3, z1, z2, z4, z5⟩ := ih (i + 1) N h1 (Ls ++ M1) t1 (by omega) (by omega) (by rw [List.length_append]; omega) x2 (fun t i' hi' o ho => by
          by_cases w : i' = i
          · subst w; exact x4 t o (by omega) ho
          · exact PU_app (by omega) (hd rfl i' (by omega) o ho))
        refine ⟨h3, M1 ++ M3, t3, ?_, by rw [← List.append_assoc]; exact z2, by rw [← List.append_assoc]; exact z4, fun c q w => by rw [z5 c q w, x5 c q w]⟩
        refine x1.trans ?_
        rw [zlet_eq, wr_s (by omega)]
        exact z1
    · rw [if_neg (by omega)]
      exact ⟨h, [], tm, rfl, by rw [List.append_nil]; exact hS, fun z i' hi' => by rw [List.append_nil] at hi' ⊢; exact hd z i' (by omega), fun _ _ _ => rfl⟩
theorem PU_cl {Ls : List (List Nat)} (hw : WF n ar tb) (h0 : List.range n ∈ Ls) (h : ∀ i, i < Ls.length → ∀ o, o < ar.length → PUo tb n ar o i Ls) : ClL tb n ar Ls := by
  refine ⟨h0, fun o f g ho hf hg => ?_⟩
  obtain ⟨i, hi, ei⟩ := mem_gdl hf
  obtain ⟨j, hj, ej⟩ := mem_gdl hg
  have h2 := hw.2.2.1 o ho
  by_cases q : ar.getD o 0 < 2
  · have := (h i hi o ho).1 q
    rw [ei] at this
    rw [ap_congr (f' := f) (g' := f) (fun _ => rfl) (fun z => absurd z (by omega))]
    exact this
  · by_cases z : j ≤ i
    · have := ((h i hi o ho).2 (by omega) j z).1
      rw [ei, ej] at this; exact this
    · have := ((h j hj o ho).2 (by omega) i (by omega)).2
      rw [ei, ej] at this; exact this
theorem idl_L (hA : 117 ≤ A) (hn : n ≤ 7) {k41 : HF → RO} : ∀ (m e N : Nat) (h : HF), e + m = n → m + 1 ≤ N → h 110 5 = (A : Int) → h A 0 = (n : Int) → (∀ i, i < e → h 113 i = (i : Int)) → ∃ h', LX9_gather_17 F 110 k41 N (e : Int) h = k41 h' ∧ LN h' 113 (List.range n) ∧ ∀ c i, c ≠ 113 → h' c i = h c i := by
  intro m
  induction m with
  | zero =>
    intro e N h he hN h5 h0 hp
    obtain ⟨N, rfl⟩ : ∃ M, N = M + 1 := ⟨N - 1, by omega⟩
    refine ⟨h, ?_, fun i hi => ?_, fun _ _ _ => rfl⟩
    · rw [LX9_gather_17, zgd_at h5, zgf_eq, h0, if_neg (by omega)]
    · rw [List.length_range] at hi
      rw [rng_get hi]; exact hp i (by omega)
  | succ m ih =>
    intro e N h he hN h5 h0 hp
    obtain ⟨N, rfl⟩ : ∃ M, N = M + 1 := ⟨N - 1, by omega⟩
    rw [LX9_gather_17, zgd_at h5, zgf_eq, h0, if_pos (by omega), wt113 (by omega), zlet_eq, wr_s (by omega)]
    obtain ⟨h', x1, x2, x3⟩ := ih (e + 1) N (stp h 113 e (e : Int)) (by omega) (by omega) (by rw [stp_ne (by omega)]; exact h5) (by rw [stp_ne (by omega)]; exact h0) (fun i hi => by
      by_cases z : i = e
      · subst z; exact stp_eq _ _ _ _
      · rw [stp_ne (by omega)]; exact hp i (by omega))
    exact ⟨h', x1, x2, fun c i z => by rw [x3 c i z, stp_ne (Or.inl z)]⟩
/-- the class's functions: all, or more than 300 -/
theorem gather_f {h : HF} (hF : 302 ≤ F) (hA : 117 ≤ A) (hk : kt A = 0 + 3) (hw : WF n ar tb) (hr : RepC h A n ar tb) : ∃ (h' : HF) (Ls : List (List Nat)) (tm : Bool), fX9_gather F 110 A h = some (0, h') ∧ FS h' A n ar tb Ls tm ∧ (tm = false → ClL tb n ar Ls) ∧ ∀ c q, (c < 110 ∨ 113 < c) → h' c q = h c q := by
  have hn := hw.1
  generalize hg : stp (stp (stp h 110 5 (A : Int)) 110 1 0) 110 2 0 = h0
  have k0 : ∀ c i, c ≠ 110 → h0 c i = h c i := fun c i z => by rw [← hg, stp_ne (Or.inl z), stp_ne (Or.inl z), stp_ne (Or.inl z)]
  have f5 : h0 110 5 = (A : Int) := by rw [← hg, stp_ne (by omega), stp_ne (by omega), stp_eq]
  have f1 : h0 110 1 = 0 := by rw [← hg, stp_ne (by omega), stp_eq]
  have f2 : h0 110 2 = 0 := by rw [← hg, stp_eq]
  have r0 : RepC h0 A n ar tb := RepC_keep (fun i k hi => k0 _ _ (by omega)) hr
  obtain ⟨h1, x1, x2, x3⟩ := idl_L (F := F) hA hn.2 (k41 := fun h => zbd (fX9_addLine F 110 h) fun _ h => LX9_gather_47 F 110 (fun h => some (0, h)) F 0 h) n 0 F h0 (by omega) (by omega) f5 r0.1 (fun i hi => absurd hi (by omega))
  have S1 : FS h1 A n ar tb [] false := ⟨⟨by rw [x3 _ _ (by omega)]; exact f5, by rw [x3 _ _ (by omega)]; exact f1, fun i hi => absurd hi (by simp), [], rfl, fun i j _ hj => absurd hj (by simp), fun k hk => absurd hk (by simp), fun c => ⟨fun z => absurd z (by simp), fun ⟨l, z, _⟩ => absurd z (by simp)⟩⟩, by rw [x3 _ _ (by omega)]; exact f2, RepC_keep (fun i k hi => x3 _ _ (by omega)) r0, ⟨List.nodup_nil, by simp, fun l hl => absurd hl (by simp)⟩, fun z => absurd z (by decide)⟩
  obtain ⟨h2, M, t, y1, y2, y3, y4, y6, y5⟩ := addLine_eq (F := F) hF hA hn S1 x2 (id_VL hn.1) Gen_id
  obtain ⟨h3, M3, t3, z1, z2, z4, z5⟩ := gat_L (F := F) hF hA hk hw (k93 := fun h => some (0, h)) 300 0 F h2 ([] ++ M) t (by omega) (by omega) (by omega) y2 (fun _ i' hi' => absurd hi' (by omega))
  have tf : t = false := y6 (by simp) rfl
  refine ⟨h3, [] ++ M ++ M3, t3, ?_, z2, fun q => PU_cl hw (List.mem_append_left _ (y4 tf)) (z4 q), fun c q w => by rw [z5 c q w, y5 c q (by omega), x3 c q (by omega), k0 c q (by omega)]⟩
  unfold fX9_gather
  rw [zpf_eq, zpf_eq, zpz_0, hg, zjn_eq]
  refine x1.trans ?_
  rw [y1, zbd_some]
  exact z1
end FN
