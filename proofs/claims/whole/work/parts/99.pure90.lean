/-! function: the reference's whole search; the call -/
section FR
variable {F n d : Nat} {ar : List Nat} {tb : Nat → Nat → Int}
theorem f93 (hF : 302 ≤ F) (hd : d < 10) (hw : WF n ar tb) {k248 : Int → HF → RO} : ∀ (m i N : Nat) (h : HF) (Ls : List (List Nat)) (ft : Bool), i + m = 300 → m + 1 ≤ N → i ≤ Ls.length → FRs h d n ar tb Ls → (ft = false → Ovf tb n ar Ls) → (ft = true → ∀ i', i' < i → ∀ o, o < ar.length → PRo tb n ar o i' Ls) → ∃ (h' : HF) (Ms : List (List Nat)) (ft' : Bool), LX12_findFunctions_93 F 181 (d : Int) k248 N (bi ft) (i : Int) h = k248 (bi ft') h' ∧ FRs h' d n ar tb (Ls ++ Ms) ∧ (ft' = false → Ovf tb n ar (Ls ++ Ms)) ∧ (ft = false → ft' = false) ∧ (ft' = true → ∀ i', i' < (Ls ++ Ms).length → ∀ o, o < ar.length → PRo tb n ar o i' (Ls ++ Ms)) ∧ ∀ c q, (c < 215 ∨ 216 < c) → (c ≠ 181 ∨ q ≠ 53) → h' c q = h c q := by
  have hl4 := hw.2.1
  intro m
  induction m with
  | zero =>
    intro i N h Ls ft hm hN hi hS hO hd'
    obtain ⟨N, rfl⟩ : ∃ M, N = M + 1 := ⟨N - 1, by omega⟩
    have l300 := hS.2.2.2.2.1
    refine ⟨h, [], ft, ?_, by rw [List.append_nil]; exact hS, by rw [List.append_nil]; exact hO, fun z => z, fun z i' hi' => by rw [List.append_nil] at hi' ⊢; exact hd' z i' (by omega), fun _ _ _ _ => rfl⟩
    rw [LX12_findFunctions_93, zgf_eq, hS.1, if_neg (by omega)]
  | succ m ih =>
    intro i N h Ls ft hm hN hi hS hO hd'
    obtain ⟨N, rfl⟩ : ∃ M, N = M + 1 := ⟨N - 1, by omega⟩
    have l300 := hS.2.2.2.2.1
    rw [LX12_findFunctions_93, zgf_eq, hS.1]
    by_cases q : i < Ls.length
    · rw [if_pos (by omega)]
      cases ft with
      | false =>
        rw [if_pos (show bi false = 0 from rfl)]
        exact ⟨h, [], false, rfl, by rw [List.append_nil]; exact hS, by rw [List.append_nil]; exact hO, fun _ => rfl, fun z => absurd z (by decide), fun _ _ _ _ => rfl⟩
      | true =>
        rw [if_neg (show ¬ bi true = 0 by decide), zjn_eq]
        obtain ⟨h1, M1, t1, x1, x2, x3, x6, x4, x5⟩ := f109 (F := F) hF hd hw (k242 := fun (x242_3 : Int) (x242_4 : Int) (h : HF) => zlet (wr (x242_4 + 1)) fun x4 => LX12_findFunctions_93 F 181 (d : Int) k248 N x242_3 x4 h) ar.length 0 F h Ls true (by omega) (by omega) q hS hO
        obtain ⟨h3, M3, t3, z1, z2, z6, z3, z4, z5⟩ := ih (i + 1) N h1 (Ls ++ M1) t1 (by omega) (by omega) (by rw [List.length_append]; omega) x2 x6 (fun t i' hi' o ho => by
          by_cases w : i' = i
          · subst w; exact x4 t o (by omega) ho
          · exact PR_app (by omega) (hd' rfl i' (by omega) o ho))
        refine ⟨h3, M1 ++ M3, t3, ?_, by rw [← List.append_assoc]; exact z2, by rw [← List.append_assoc]; exact z6, fun q => absurd q (by decide), by rw [← List.append_assoc]; exact z4, fun c q w y => by rw [z5 c q w y, x5 c q w y]⟩
        refine x1.trans ?_
        rw [zlet_eq, wr_s (by omega)]
        exact z1
    · rw [if_neg (by omega)]
      exact ⟨h, [], ft, rfl, by rw [List.append_nil]; exact hS, by rw [List.append_nil]; exact hO, fun z => z, fun z i' hi' => by rw [List.append_nil] at hi' ⊢; exact hd' z i' (by omega), fun _ _ _ _ => rfl⟩
theorem f41 (hF : 302 ≤ F) (hd : d < 10) (hw : WF n ar tb) {k90 : Int → HF → RO} : ∀ (m o N : Nat) (h : HF) (Ls : List (List Nat)) (ft : Bool), o + m = ar.length → m + 1 ≤ N → FRs h d n ar tb Ls → (ft = false → Ovf tb n ar Ls) → ∃ (h' : HF) (Ms : List (List Nat)) (ft' : Bool), LX12_findFunctions_41 F 181 (d : Int) k90 N (bi ft) (o : Int) h = k90 (bi ft') h' ∧ FRs h' d n ar tb (Ls ++ Ms) ∧ (ft' = false → Ovf tb n ar (Ls ++ Ms)) ∧ (ft = false → ft' = false) ∧ (ft' = true → ∀ o', o ≤ o' → o' < ar.length → ar.getD o' 0 = 0 → apL tb n ar o' (List.replicate n 0) (List.replicate n 0) ∈ Ls ++ Ms) ∧ ∀ c q, (c < 215 ∨ 216 < c) → (c ≠ 181 ∨ q ≠ 53) → h' c q = h c q := by
  have hn := hw.1
  have hl4 := hw.2.1
  intro m
  induction m with
  | zero =>
    intro o N h Ls ft ho hN hS hO
    obtain ⟨N, rfl⟩ : ∃ M, N = M + 1 := ⟨N - 1, by omega⟩
    refine ⟨h, [], ft, ?_, by rw [List.append_nil]; exact hS, by rw [List.append_nil]; exact hO, fun z => z, fun _ q q1 q2 => absurd q1 (by omega), fun _ _ _ _ => rfl⟩
    rw [LX12_findFunctions_41, mops hd hS.2.2.1, if_neg (by omega)]
  | succ m ih =>
    intro o N h Ls ft ho hN hS hO
    obtain ⟨N, rfl⟩ : ∃ M, N = M + 1 := ⟨N - 1, by omega⟩
    have ho' : o < ar.length := by omega
    rw [LX12_findFunctions_41, mops hd hS.2.2.1, if_pos (by omega)]
    simp only [zjn_eq, zlet_eq]
    rw [wr_s (by omega)]
    cases ft with
    | false =>
      rw [if_pos (show bi false = 0 from rfl)]
      obtain ⟨h3, M3, t3, z1, z2, z6, z3, z4, z5⟩ := ih (o + 1) N h Ls false (by omega) (by omega) hS hO
      exact ⟨h3, M3, t3, z1, z2, z6, z3, fun t => absurd (z3 rfl) (by rw [t]; decide), z5⟩
    | true =>
      rw [if_neg (show ¬ bi true = 0 by decide), marity_eq hd hw hS.2.2.1 ho', zbd_some]
      by_cases q : 0 < ar.getD o 0
      · rw [if_pos (by omega)]
        obtain ⟨h3, M3, t3, z1, z2, z6, z3, z4, z5⟩ := ih (o + 1) N h Ls true (by omega) (by omega) hS hO
        refine ⟨h3, M3, t3, z1, z2, z6, z3, fun t o' q1 q2 q3 => ?_, z5⟩
        by_cases w : o' = o
        · subst w; omega
        · exact z4 t o' (by omega) q2 q3
      · have ec : apL tb n ar o (List.replicate n 0) (List.replicate n 0) = apL tb n ar o (List.range n) (List.range n) := ap_congr (fun z => absurd z (by omega)) (fun z => absurd z (by omega))
        obtain ⟨h1, M1, t1, x1, x2, x3, x4, x5⟩ := work_eq (F := F) hF hd hw ho' (zro_VL hn.1) (zro_VL hn.1) (by rw [ec]; exact Gen_ap ho' Gen_id Gen_id) hS
        rw [zro_cd] at x1
        have x1' : fX12_work F 181 (d : Int) (o : Int) 0 0 h = some (bi t1, h1) := x1
        rw [if_neg (by omega), x1', zbd_some]
        have O1 : t1 = false → Ovf tb n ar (Ls ++ M1) := fun z => ⟨(x4 z).1, _, ap_VL hw ho' (zro_VL hn.1).2 (zro_VL hn.1).2, by rw [ec]; exact Gen_ap ho' Gen_id Gen_id, (x4 z).2⟩
        obtain ⟨h3, M3, t3, z1, z2, z6, z3, z4, z5⟩ := ih (o + 1) N h1 (Ls ++ M1) t1 (by omega) (by omega) x2 O1
        refine ⟨h3, M1 ++ M3, t3, ?_, by rw [← List.append_assoc]; exact z2, by rw [← List.append_assoc]; exact z6, fun q => absurd q (by decide), fun t o' q1 q2 q3 => ?_, fun c q w y => by rw [z5 c q w y, x5 c q w y]⟩
        · cases t1 with
          | true => rw [if_neg (show ¬ bi true = 0 by decide)]; exact z1
          | false => rw [if_pos (show bi false = 0 from rfl)]; exact z1
        · rw [← List.append_assoc]
          by_cases w : o' = o
          · subst w
            have t1t : t1 = true := by
              cases t1 with
              | true => rfl
              | false => rw [z3 rfl] at t; exact absurd t (by decide)
            exact List.mem_append_left _ (x3 t1t)
          · exact z4 t o' (by omega) q2 q3
theorem f14 (hn : n ≤ 7) {u1 : Int} {k32 : Int → HF → RO} : ∀ (m e N : Nat) (h : HF), e + m = n → m + 1 ≤ N → (∀ i, i < e → h 216 i = (i : Int)) → ∃ h', LX12_findFunctions_14 F 181 u1 (n : Int) k32 N (e : Int) h = k32 (n : Int) h' ∧ LN h' 216 (List.range n) ∧ ∀ c i, c ≠ 216 → h' c i = h c i := by
  intro m
  induction m with
  | zero =>
    intro e N h he hN hp
    obtain ⟨N, rfl⟩ : ∃ M, N = M + 1 := ⟨N - 1, by omega⟩
    refine ⟨h, ?_, fun i hi => ?_, fun _ _ _ => rfl⟩
    · rw [LX12_findFunctions_14, if_neg (by omega)]
    · rw [List.length_range] at hi
      rw [rng_get hi]; exact hp i (by omega)
  | succ m ih =>
    intro e N h he hN hp
    obtain ⟨N, rfl⟩ : ∃ M, N = M + 1 := ⟨N - 1, by omega⟩
    rw [LX12_findFunctions_14, if_pos (by omega), wtm35 (by omega), zlet_eq, wr_s (by omega)]
    obtain ⟨h', x1, x2, x3⟩ := ih (e + 1) N (stp h 216 e (e : Int)) (by omega) (by omega) (fun i hi => by
      by_cases z : i = e
      · subst z; exact stp_eq _ _ _ _
      · rw [stp_ne (by omega)]; exact hp i (by omega))
    exact ⟨h', x1, x2, fun c i z => by rw [x3 c i z, stp_ne (Or.inl z)]⟩
/-- the reference's functions: all, or more than 300 -/
theorem find_f {h : HF} (hF : 302 ≤ F) (hd : d < 10) (hw : WF n ar tb) (hr : RepM h 184 185 186 187 d n ar tb) : ∃ (h' : HF) (Ls : List (List Nat)) (ft : Bool), fX12_findFunctions F 181 (d : Int) h = some (bi ft, h') ∧ FRs h' d n ar tb Ls ∧ (ft = false → Ovf tb n ar Ls) ∧ (ft = true → ClL tb n ar Ls) ∧ ∀ c q, (c < 215 ∨ 216 < c) → (c ≠ 181 ∨ q ≠ 53) → h' c q = h c q := by
  have hn := hw.1
  have hl4 := hw.2.1
  obtain ⟨h1, x1, x2, x3⟩ := f14 (F := F) (n := n) (u1 := (d : Int)) hn.2 (k32 := fun (x32_2 : Int) (h : HF) => zbd (fX12_addFunction F 181 x32_2 h) fun r2 h => LX12_findFunctions_41 F 181 (d : Int) (fun x90_3 h => LX12_findFunctions_93 F 181 (d : Int) (fun x248_3 h => zrz x248_3 h) F x90_3 0 h) F r2 0 h) n 0 F (stp h 181 53 0) (by omega) (by omega) (fun i hi => absurd hi (by omega))
  have S1 : FRs h1 d n ar tb [] := ⟨by rw [x3 _ _ (by omega), stp_eq]; rfl, fun i hi => absurd hi (by simp), RepM_keep (fun k => ⟨by rw [x3 _ _ (by omega), stp_ne (by omega)], by rw [x3 _ _ (by omega), stp_ne (by omega)], by rw [x3 _ _ (by omega), stp_ne (by omega)], by rw [x3 _ _ (by omega), stp_ne (by omega)]⟩) hr, List.nodup_nil, by simp, fun l hl => absurd hl (by simp)⟩
  obtain ⟨h2, M, t, y1, y2, y3, y4, y5⟩ := addFunction_eq (F := F) hF hn.2 S1 x2 (id_VL hn.1) Gen_id
  have O2 : t = false → Ovf tb n ar ([] ++ M) := fun z => ⟨(y4 z).1, _, id_VL hn.1, Gen_id, (y4 z).2⟩
  obtain ⟨h3, M3, t3, z1, z2, z6, z3, z4, z5⟩ := f41 (F := F) hF hd hw (k90 := fun x90_3 h => LX12_findFunctions_93 F 181 (d : Int) (fun x248_3 h => zrz x248_3 h) F x90_3 0 h) ar.length 0 F h2 ([] ++ M) t (by omega) (by omega) y2 O2
  obtain ⟨h4, M4, t4, w1, w2, w6, w3, w4, w5⟩ := f93 (F := F) hF hd hw (k248 := fun x248_3 h => zrz x248_3 h) 300 0 F h3 ([] ++ M ++ M3) t3 (by omega) (by omega) (by omega) z2 z6 (fun _ i' hi' => absurd hi' (by omega))
  refine ⟨h4, [] ++ M ++ M3 ++ M4, t4, ?_, w2, w6, fun q => ?_, fun c q v u => by rw [w5 c q v u, z5 c q v u, y5 c q (by omega) u, x3 c q (by omega), stp_ne u]⟩
  · unfold fX12_findFunctions
    rw [msz hd hr, zpf_eq]
    simp only [zjn_eq]
    refine x1.trans ?_
    rw [y1, zbd_some]
    refine z1.trans ?_
    refine w1.trans ?_
    cases t4 <;> rfl
  · have t3t : t3 = true := by
      cases t3 with
      | true => rfl
      | false => rw [w3 rfl] at q; exact absurd q (by decide)
    have tt : t = true := by
      cases t with
      | true => rfl
      | false => rw [z3 rfl] at t3t; exact absurd t3t (by decide)
    refine ⟨List.mem_append_left _ (List.mem_append_left _ (y3 tt)), fun o f g ho hf hg => ?_⟩
    obtain ⟨i, hi, ei⟩ := mem_gdl hf
    obtain ⟨j, hj, ej⟩ := mem_gdl hg
    have r2 := hw.2.2.1 o ho
    by_cases q0 : ar.getD o 0 = 0
    · rw [ap_congr (f' := List.replicate n 0) (g' := List.replicate n 0) (fun z => absurd z (by omega)) (fun z => absurd z (by omega))]
      exact List.mem_append_left _ (z4 t3t o (by omega) ho q0)
    · by_cases q1 : ar.getD o 0 = 1
      · have := (w4 q i hi o ho).1 q1
        rw [ei] at this
        rw [ap_congr (f' := f) (g' := f) (fun _ => rfl) (fun z => absurd z (by omega))]
        exact this
      · by_cases z : j ≤ i
        · have := ((w4 q i hi o ho).2 (by omega) j z).1
          rw [ei, ej] at this; exact this
        · have := ((w4 q j hj o ho).2 (by omega) i (by omega)).2
          rw [ei, ej] at this; exact this
/-- how many codes are lesser -/
def cnL (n : Nat) (Ls : List (List Nat)) (c : Nat) : Nat := sumF (fun j => if cdL n (Ls.getD j []) < c then 1 else 0) Ls.length 0
theorem f72 {h : HF} {Ls : List (List Nat)} (hS : FRs h d n ar tb Ls) {i : Nat} (hi : i < Ls.length) {u2 : Int} {k114 : Int → Int → HF → RO} : ∀ (m j N b : Nat), j + m = Ls.length → m + 1 ≤ N → b ≤ j → LX12_function_72 F 181 u2 (i : Int) k114 N (b : Int) (j : Int) h = k114 (i : Int) ((b + sumF (fun j => if cdL n (Ls.getD j []) < cdL n (Ls.getD i []) then 1 else 0) m j : Nat) : Int) h := by
  have l300 := hS.2.2.2.2.1
  intro m
  induction m with
  | zero =>
    intro j N b hj hN hb
    obtain ⟨N, rfl⟩ : ∃ M, N = M + 1 := ⟨N - 1, by omega⟩
    rw [LX12_function_72, zgf_eq, hS.1, if_neg (by omega)]
    rfl
  | succ m ih =>
    intro j N b hj hN hb
    obtain ⟨N, rfl⟩ : ∃ M, N = M + 1 := ⟨N - 1, by omega⟩
    rw [LX12_function_72, zgf_eq, hS.1, if_pos (by omega), rdm34 (by omega), rdm34 (by omega), hS.2.1 j (by omega), hS.2.1 i hi]
    simp only [zjn_eq, zlet_eq]
    rw [wr_s (by omega), wr_s (by omega), wr_id (x := (b : Int) + 0) ⟨by omega, by omega⟩, show (b : Int) + 0 = (b : Int) by omega, sumF_s]
    by_cases q : cdL n (Ls.getD j []) < cdL n (Ls.getD i [])
    · rw [if_pos (by omega), if_pos q, ih (j + 1) N (b + 1) (by omega) (by omega) (by omega), show b + 1 + sumF (fun j => if cdL n (Ls.getD j []) < cdL n (Ls.getD i []) then 1 else 0) m (j + 1) = b + (1 + sumF (fun j => if cdL n (Ls.getD j []) < cdL n (Ls.getD i []) then 1 else 0) m (j + 1)) by omega]
    · rw [if_neg (by omega), if_neg q, ih (j + 1) N b (by omega) (by omega) (by omega), Nat.zero_add]
theorem f57 {h : HF} {Ls : List (List Nat)} (hF : 302 ≤ F) (hS : FRs h d n ar tb Ls) {u2 : Int} {k134 : HF → RO} {k120 : Int → HF → RO} : ∀ (m i N : Nat), i + m = Ls.length → m + 1 ≤ N → (∃ q, i ≤ q ∧ q < Ls.length ∧ (cnL n Ls (cdL n (Ls.getD q [])) : Int) = u2) → ∃ q, i ≤ q ∧ q < Ls.length ∧ (cnL n Ls (cdL n (Ls.getD q [])) : Int) = u2 ∧ LX12_function_57 F 181 u2 k134 k120 N (i : Int) h = k120 (q : Int) h := by
  have l300 := hS.2.2.2.2.1
  intro m
  induction m with
  | zero => intro i N hi hN hq; obtain ⟨q, q1, q2, _⟩ := hq; omega
  | succ m ih =>
    intro i N hi hN hq
    obtain ⟨N, rfl⟩ : ∃ M, N = M + 1 := ⟨N - 1, by omega⟩
    have st : LX12_function_57 F 181 u2 k134 k120 (N + 1) (i : Int) h = if (cnL n Ls (cdL n (Ls.getD i [])) : Int) = u2 then k120 (i : Int) h else LX12_function_57 F 181 u2 k134 k120 N ((i + 1 : Nat) : Int) h := by
      rw [LX12_function_57, zgf_eq, hS.1, if_pos (by omega), zjn_eq]
      refine (f72 (F := F) hS (show i < Ls.length by omega) Ls.length 0 F 0 (by omega) (by omega) (by omega)).trans ?_
      rw [Nat.zero_add, zlet_eq, wr_s (by omega)]
      rfl
    rw [st]
    by_cases z : (cnL n Ls (cdL n (Ls.getD i [])) : Int) = u2
    · rw [if_pos z]; exact ⟨i, by omega, by omega, z, rfl⟩
    · rw [if_neg z]
      obtain ⟨q, q1, q2, q3⟩ := hq
      obtain ⟨q', w1, w2, w3, w4⟩ := ih (i + 1) N (by omega) (by omega) ⟨q, by
        by_cases y : q = i
        · subst y; exact absurd q3 z
        · omega, q2, q3⟩
      exact ⟨q', by omega, w2, w3, w4⟩
end FR
/-- by a relation that takes none twice -/
theorem len_rel {α β : Type} [BEq β] [LawfulBEq β] {R : α → β → Prop} (hR : ∀ x x' y, R x y → R x' y → x = x') : ∀ (l1 : List α) (l2 : List β), l1.Nodup → (∀ x ∈ l1, ∃ y ∈ l2, R x y) → l1.length ≤ l2.length
  | [], _, _, _ => Nat.zero_le _
  | x :: t, l2, hn, hs => by
    obtain ⟨y, hy, hxy⟩ := hs x (by simp)
    have h1 := List.length_erase_of_mem hy
    have hp : 0 < l2.length := List.length_pos_of_mem hy
    have hn' := List.nodup_cons.mp hn
    have h2 := len_rel hR t (l2.erase y) hn'.2 (fun x' hx' => by
      obtain ⟨y', hy', r'⟩ := hs x' (by simp [hx'])
      have hne : y' ≠ y := fun e => by
        subst e
        have := hR x x' y' hxy r'
        subst this
        exact hn'.1 hx'
      exact ⟨y', (List.mem_erase_of_ne hne).mpr hy', r'⟩)
    simp only [List.length_cons]
    omega
theorem sumF_shift {f : Nat → Nat} : ∀ (m v : Nat), sumF (fun j => f (j + 1)) m v = sumF f m (v + 1)
  | 0, _ => rfl
  | m + 1, v => by rw [sumF_s, sumF_s, sumF_shift m (v + 1)]
theorem sum_filter {p : List Nat → Bool} : ∀ (Ls : List (List Nat)), sumF (fun j => if p (Ls.getD j []) = true then 1 else 0) Ls.length 0 = (Ls.filter p).length
  | [] => rfl
  | x :: t => by
    rw [List.length_cons, sumF_s, List.filter_cons]
    have e : sumF (fun j => if p ((x :: t).getD j []) = true then 1 else 0) t.length (0 + 1) = sumF (fun j => if p (t.getD j []) = true then 1 else 0) t.length 0 := by
      rw [← sumF_shift]
      rfl
    rw [e, sum_filter t]
    have e0 : (x :: t).getD 0 [] = x := rfl
    rw [e0]
    by_cases q : p x = true
    · rw [if_pos q, if_pos q, List.length_cons]; omega
    · rw [if_neg q, if_neg q]; omega
theorem cn_filter {n : Nat} {Ls : List (List Nat)} {c : Nat} : cnL n Ls c = (Ls.filter (fun l => decide (cdL n l < c))).length := by
  rw [← sum_filter]
  unfold cnL
  refine sumF_congr _ _ (fun j _ _ => ?_)
  by_cases q : cdL n (Ls.getD j []) < c
  · rw [if_pos q, if_pos (decide_eq_true q)]
  · rw [if_neg q, if_neg (by rw [decide_eq_false q]; decide)]
theorem SO_nodup {cs : List Nat} (h : SO cs) : cs.Nodup := by
  unfold List.Nodup
  rw [List.pairwise_iff_getElem]
  intro i j hi hj hij e
  have := h i j hij hj
  rw [List.getD_eq_getElem?_getD, List.getD_eq_getElem?_getD, List.getElem?_eq_getElem hi, List.getElem?_eq_getElem hj] at this
  have e' : (some cs[i]).getD 0 = (some cs[j]).getD 0 := by rw [e]
  omega
/-- the code with k lesser ones is the one at place k in order -/
theorem cn_at {n k : Nat} {Ls : List (List Nat)} {cs : List Nat} (hn : n ≤ 7) (hN : Ls.Nodup) (hV : ∀ l ∈ Ls, VLn n l) (hs : SO cs) (hc : ∀ c, c ∈ cs ↔ ∃ l ∈ Ls, cdL n l = c) (hk : k < cs.length) : cnL n Ls (cs.getD k 0) = k := by
  have tk : (cs.take k).length = k := by rw [List.length_take]; omega
  have mt : ∀ x, x ∈ cs.take k ↔ x ∈ cs ∧ x < cs.getD k 0 := fun x => by
    constructor
    · intro h
      obtain ⟨i, hi, e⟩ := List.mem_iff_getElem.mp h
      rw [tk] at hi
      have h2 := hs i k hi hk
      have e2 : cs.getD i 0 = x := by
        rw [List.getD_eq_getElem?_getD, List.getElem?_eq_getElem (by omega)]
        rw [List.getElem_take] at e
        exact e
      exact ⟨List.mem_of_mem_take h, by omega⟩
    · rintro ⟨h1, h2⟩
      obtain ⟨i, hi, e⟩ := List.mem_iff_getElem.mp h1
      have e2 : cs.getD i 0 = x := by rw [List.getD_eq_getElem?_getD, List.getElem?_eq_getElem hi]; exact e
      have ik : i < k := by
        by_cases z : i < k
        · exact z
        · by_cases y : i = k
          · subst y; omega
          · have := hs k i (by omega) hi; omega
      rw [List.mem_iff_getElem]
      exact ⟨i, by omega, by rw [List.getElem_take]; exact e⟩
  rw [cn_filter]
  apply Nat.le_antisymm
  · rw [← tk]
    refine len_rel (R := fun l c => VLn n l ∧ cdL n l = c) (fun x x' y h1 h2 => cdL_inj hn h1.1 h2.1 (by rw [h1.2, h2.2])) _ _ (List.Pairwise.filter _ hN) (fun l hl => ?_)
    rw [List.mem_filter, decide_eq_true_eq, tk] at hl
    exact ⟨cdL n l, (mt _).mpr ⟨(hc _).mpr ⟨l, hl.1, rfl⟩, hl.2⟩, hV l hl.1, rfl⟩
  · rw [← tk]
    refine len_rel (R := fun c l => cdL n l = c) (fun x x' y h1 h2 => by rw [← h1, ← h2]) _ _ ((List.take_sublist k cs).nodup (SO_nodup hs)) (fun c hcm => ?_)
    obtain ⟨h1, h2⟩ := (mt c).mp hcm
    obtain ⟨l, l1, l2⟩ := (hc c).mp h1
    refine ⟨l, ?_, l2⟩
    rw [List.mem_filter, decide_eq_true_eq, l2, tk]
    exact ⟨l1, h2⟩
theorem ps_function {I6 : HF → Prop} {F : Nat} (hF : 6000 ≤ F) : PS_function F (InvP I4d I5d I6) := by
  intro h a1 a2 hI _ _
  have hI' := Inv_thrown hI
  have hD : ∀ d, d < 8 → DR h d := fun d hd => I4d_get hI.2.2.2.1 hd
  unfold fX11_function fX12_function
  rw [refuse_c hD, zbd_some]
  by_cases q : rfs h a1 = 0
  · obtain ⟨d, n, ar, tb, rfl, hd, hw, hc, hm⟩ := held hD q
    have hn := hw.1
    obtain ⟨h1, Lc, tm, x1, x2, x3, x4⟩ := gather_f (F := F) (A := 117 + 4 * d) (by omega) (by omega) (kt_drw d hd) hw hc
    have x1' : fX9_gather F (0 + 110) (117 + 4 * d) h = some (0, h1) := x1
    have m1 : RepM (stp h1 181 0 0) 184 185 186 187 d n ar tb := RepM_keep (fun k => ⟨by rw [stp_ne (by omega), x4 _ _ (by omega)], by rw [stp_ne (by omega), x4 _ _ (by omega)], by rw [stp_ne (by omega), x4 _ _ (by omega)], by rw [stp_ne (by omega), x4 _ _ (by omega)]⟩) hm
    obtain ⟨h2, Lm, ft, y1, y2, y3, y4, y5⟩ := find_f (F := F) (by omega) (show d < 10 by omega) hw m1
    have fin : InvP I4d I5d I6 h2 := Inv_while hI (fun c k z => by rw [y5 c k (by omega) (by omega), stp_ne (by omega), x4 c k (by omega)])
    have q' : rfs (stp h1 181 0 0) (d : Int) = 0 := by rw [rfs_eq (h := h) (fun e he => by rw [stp_ne (by omega), x4 _ _ (by omega)])]; exact q
    obtain ⟨⟨f1, f2, f3, cs, f4, f5, f6, f7⟩, t2, -, ⟨g1, g2, g3⟩, g4⟩ := x2
    obtain ⟨p1, p2, -, r1, r2, r3⟩ := y2
    suffices H : ∃ r, (zgf h1 (0 + 110) 2 fun x4 => if x4 = 0 then (if a2 = (-1) then (zgf h1 (0 + 110) 1 fun x5 => some (x5, h1)) else (zjn (fun (y80_0 : Int) (h : HF) => (some (y80_0, h))) fun j80 => zjn (fun  (h : HF) => (j80 (-3) h)) fun j66 => if a2 < 0 then (j66 h1) else (zgf h1 (0 + 110) 1 fun x6 => if a2 < x6 then (zrd h1 ((0 + 110) + 1) a2 fun x7 => j80 x7 h1) else (j66 h1)))) else (some ((-5), h1))) = some (r, h1) ∧ (if bi ft = 0 then some (-5, h2) else (zjn (fun  (h : HF) => (some ((-3), h))) fun j41 => if a2 < (-1) then (j41 h2) else (zgf h2 181 53 fun x3 => if a2 < x3 then (if a2 = (-1) then (zgf h2 181 53 fun x4 => some (x4, h2)) else (zjn (fun  (h : HF) => (some ((-3), h))) fun j134 => zjn (fun (x120_4 : Int) (h : HF) => (zrd h (181 + 34) x120_4 fun x5 => some (x5, h))) fun j120 => LX12_function_57 F 181 a2 j134 j120 F 0 h2)) else (j41 h2)))) = some (r, h2) by
      obtain ⟨r, e1, e2⟩ := H
      refine ⟨r, h1, h2, ?_, ?_, fin⟩
      · rw [if_pos q, drw_at hd, x1', zbd_some]; exact e1
      · rw [zpf_eq, refuse_m, zbd_some, if_pos q', y1, zbd_some]; exact e2
    have z2 : h1 (0 + 110) 2 = bi tm := t2
    have z1 : h1 (0 + 110) 1 = (Lc.length : Int) := f2
    rw [zgf_eq, z2]
    cases tm with
    | true =>
      -- more than 300
      have ff : ft = false := by
        cases ft with
        | false => rfl
        | true =>
          exfalso
          obtain ⟨c1, x, vx, gx, nx⟩ := g4 rfl
          have cl := y4 rfl
          have : (x :: Lc).length ≤ Lm.length := len_sub _ _ (List.nodup_cons.mpr ⟨nx, g1⟩) (fun u hu => by
            rcases List.mem_cons.mp hu with z | z
            · subst z; exact Cl_gen cl gx
            · exact Cl_gen cl (g3 u z).2)
          simp only [List.length_cons] at this
          omega
      rw [ff, if_neg (show ¬ bi true = 0 by decide), if_pos (show bi false = 0 from rfl)]
      exact ⟨-5, rfl, rfl⟩
    | false =>
      have ff : ft = true := by
        cases ft with
        | true => rfl
        | false =>
          exfalso
          obtain ⟨c1, x, vx, gx, nx⟩ := y3 rfl
          have cl := x3 rfl
          have : (x :: Lm).length ≤ Lc.length := len_sub _ _ (List.nodup_cons.mpr ⟨nx, r1⟩) (fun u hu => by
            rcases List.mem_cons.mp hu with z | z
            · subst z; exact Cl_gen cl gx
            · exact Cl_gen cl (r3 u z).2)
          simp only [List.length_cons] at this
          omega
      have lc : ∀ x, x ∈ Lc ↔ x ∈ Lm := fun x => ⟨fun z => Cl_gen (y4 ff) (g3 x z).2, fun z => Cl_gen (x3 rfl) (r3 x z).2⟩
      have el : Lc.length = Lm.length := Nat.le_antisymm (len_sub _ _ g1 (fun x hx => (lc x).mp hx)) (len_sub _ _ r1 (fun x hx => (lc x).mpr hx))
      rw [ff, if_pos (show bi false = 0 from rfl), if_neg (show ¬ bi true = 0 by decide)]
      by_cases q1 : a2 = -1
      · refine ⟨(Lc.length : Int), ?_, ?_⟩
        · rw [if_pos q1, zgf_eq, z1]
        · rw [zjn_eq, if_neg (by omega), zgf_eq, p1, if_pos (by omega), if_pos q1, zgf_eq, p1, el]
      · by_cases q2 : 0 ≤ a2 ∧ a2 < (Lc.length : Int)
        · obtain ⟨k, rfl⟩ : ∃ k : Nat, a2 = (k : Int) := ⟨a2.toNat, by omega⟩
          have hk : k < cs.length := by omega
          have hcM : ∀ c, c ∈ cs ↔ ∃ l ∈ Lm, cdL n l = c := fun c => by
            rw [f7]
            exact ⟨fun ⟨l, w1, w2⟩ => ⟨l, (lc l).mp w1, w2⟩, fun ⟨l, w1, w2⟩ => ⟨l, (lc l).mpr w1, w2⟩⟩
          have cnk := fun k' hk' => cn_at (k := k') hn.2 r1 (fun l hl => (r3 l hl).1) f5 hcM hk'
          -- the reference's place
          have ck : cs.getD k 0 ∈ cs := by rw [List.getD_eq_getElem?_getD, List.getElem?_eq_getElem hk]; exact List.getElem_mem hk
          obtain ⟨l0, w1, w2⟩ := (hcM _).mp ck
          obtain ⟨i0, i1, i2⟩ := mem_gdl w1
          obtain ⟨i, j1, j2, j3, j4⟩ := f57 (F := F) (u2 := (k : Int)) (by omega) (⟨p1, p2, m1.1 |> fun _ => (RepM_keep (fun k => ⟨y5 _ _ (by omega) (by omega), y5 _ _ (by omega) (by omega), y5 _ _ (by omega) (by omega), y5 _ _ (by omega) (by omega)⟩) m1), r1, r2, r3⟩ : FRs h2 d n ar tb Lm) (k134 := fun h => some (-3, h)) (k120 := fun (x120_4 : Int) (h : HF) => zrd h (181 + 34) x120_4 fun x5 => some (x5, h)) Lm.length 0 F (by omega) (by omega) ⟨i0, by omega, i1, by rw [i2, w2, cnk k hk]⟩
          have ei : cdL n (Lm.getD i []) = cs.getD k 0 := by
            have mi : cdL n (Lm.getD i []) ∈ cs := (hcM _).mpr ⟨_, gdl_mem j2, rfl⟩
            obtain ⟨k', hk', e'⟩ := List.mem_iff_getElem.mp mi
            have e2 : cs.getD k' 0 = cdL n (Lm.getD i []) := by rw [List.getD_eq_getElem?_getD, List.getElem?_eq_getElem hk']; exact e'
            have := cnk k' hk'
            rw [e2] at this
            have kk : k' = k := by omega
            rw [← e2, kk]
          refine ⟨(cs.getD k 0 : Int), ?_, ?_⟩
          · rw [if_neg q1, zjn_eq, zjn_eq, if_neg (by omega), zgf_eq, z1, if_pos q2.2]
            show zrd h1 (110 + 1) (k : Int) _ = _
            rw [rd111 (by omega), f6 k hk]
          · rw [zjn_eq, if_neg (by omega), zgf_eq, p1, if_pos (by omega), if_neg q1, zjn_eq, zjn_eq]
            refine j4.trans ?_
            rw [rdm34 (by omega), p2 i j2, ei]
        · refine ⟨-3, ?_, ?_⟩
          · rw [if_neg q1, zjn_eq, zjn_eq]
            by_cases w : a2 < 0
            · rw [if_pos w]
            · rw [if_neg w, zgf_eq, z1, if_neg (by omega)]
          · rw [zjn_eq]
            by_cases w : a2 < -1
            · rw [if_pos w]
            · rw [if_neg w, zgf_eq, p1, if_neg (by omega)]
  · refine ⟨rfs h a1, h, stp h 181 0 0, ?_, ?_, hI'⟩
    · rw [if_neg q]
    · rw [zpf_eq, refuse_m, zbd_some, rfs_thrown, if_neg q]
