/-! the reference's search; what refuses models on both sides -/
section MR
variable {F n i nl ns T L : Nat} {ar : List Nat} {sg mn se lf rt lw : Nat → Nat}
theorem findModel_m {h : HF} (hF : 70000 ≤ F) (hn : 1 ≤ n ∧ n ≤ 7) (hl : ar.length ≤ 4) (h2 : ∀ o, o < ar.length → ar.getD o 0 ≤ 2) (hi : i < 4) (hP : LLP nl ns T sg mn se lf rt lw) (hf : fitP ar sg mn T) (hM : n ^ sto n ar ar.length ≤ 60000) {u : Bool} {u3 : Int} (hX : MLx h 9 i n ar (TB n ar 0) nl ns T sg mn se lf rt lw) : ∃ h', (∀ x k, (x < 211 ∨ 214 < x) → (x ≠ 181 ∨ (k ≠ 37 ∧ k ≠ 38 ∧ k ≠ 39 ∧ k ≠ 40 ∧ k ≠ 43)) → (x ≠ 187 ∨ k < 1764) → h' x k = h x k) ∧ ((fX12_findModel F 181 (i : Int) (bi u) u3 h = some (0, h') ∧ h' 181 43 = ((sumF (fun c => b1 (cnB n ar nl sg mn se lf rt lw u c)) (n ^ sto n ar ar.length) 0 : Nat) : Int) ∧ ∀ f, f < n ^ sto n ar ar.length → cnB n ar nl sg mn se lf rt lw u f = true → ((sumF (fun c => b1 (cnB n ar nl sg mn se lf rt lw u c)) f 0 : Nat) : Int) ≠ u3) ∨ (∃ f, f < n ^ sto n ar ar.length ∧ cnB n ar nl sg mn se lf rt lw u f = true ∧ ((sumF (fun c => b1 (cnB n ar nl sg mn se lf rt lw u c)) f 0 : Nat) : Int) = u3 ∧ fX12_findModel F 181 (i : Int) (bi u) u3 h = some (1, h') ∧ RepM h' 184 185 186 187 9 n ar (TB n ar f))) := by
  have hpos : 0 < n ^ sto n ar ar.length := Nat.pow_pos (by omega)
  obtain ⟨h', a1, a2⟩ := fmod_L (F := F) (u := u) (u3 := u3) (k55 := fun x h => zpf h 181 43 x fun h => zrz 0 h) (k41 := fun h => zrz 1 h) (by omega) hn hl h2 hi hP hf hM (n ^ sto n ar ar.length) 0 F 0 h (by omega) (by omega) (by omega) (by omega) hX
  have e : fX12_findModel F 181 (i : Int) (bi u) u3 h = LX12_findModel_6 F 181 (i : Int) (bi u) u3 (fun x h => zpf h 181 43 x fun h => zrz 0 h) (fun h => zrz 1 h) F 0 1 h := by
    unfold fX12_findModel
    rw [zjn_eq, zjn_eq]
  rw [e]
  rcases a2 with ⟨b1, b2⟩ | ⟨f, b1, b2, b3, b4, b5⟩
  · rw [Nat.zero_add] at b1
    refine ⟨stp h' 181 43 _, fun x k z1 z2 z3 => by rw [stp_ne (by omega), a1 x k z1 (by omega) z3], .inl ⟨b1, stp_eq .., fun f w1 w2 => ?_⟩⟩
    have := b2 f w1 (by rw [Nat.zero_add]; exact w2)
    rw [Nat.zero_add] at this
    exact this
  · rw [Nat.zero_add] at b2 b3 b5
    exact ⟨h', fun x k z1 z2 z3 => a1 x k z1 (by omega) z3, .inr ⟨f, b1, b2, b3, b4, b5⟩⟩
/-- the number of counted ones before it tells a counted one -/
theorem cn_uniq {u : Bool} {f f' : Nat} (h1 : cnB n ar nl sg mn se lf rt lw u f = true) (h2 : cnB n ar nl sg mn se lf rt lw u f' = true) (e : sumF (fun c => b1 (cnB n ar nl sg mn se lf rt lw u c)) f 0 = sumF (fun c => b1 (cnB n ar nl sg mn se lf rt lw u c)) f' 0) : f = f' := by
  have key : ∀ a b, cnB n ar nl sg mn se lf rt lw u a = true → a < b → sumF (fun c => b1 (cnB n ar nl sg mn se lf rt lw u c)) a 0 < sumF (fun c => b1 (cnB n ar nl sg mn se lf rt lw u c)) b 0 := fun a b ha hab => by
    have m := sum_mono (f := fun c => b1 (cnB n ar nl sg mn se lf rt lw u c)) (show a + 1 ≤ b from hab)
    have s : sumF (fun c => b1 (cnB n ar nl sg mn se lf rt lw u c)) (a + 1) 0 = sumF (fun c => b1 (cnB n ar nl sg mn se lf rt lw u c)) a 0 + 1 := by rw [sum_next, ha]; rfl
    omega
  rcases Nat.lt_trichotomy f f' with w | w | w
  · have := key f f' h1 w; omega
  · exact w
  · have := key f' f h2 w; omega
theorem dg_zero {B : Nat} : ∀ N, dg B N 0 = List.replicate N 0
  | 0 => rfl
  | N + 1 => by rw [dg, Nat.zero_div, Nat.zero_mod, dg_zero N]; rfl
theorem TB_zero : TB n ar 0 = fun _ _ => 0 := by
  funext o k
  unfold TB tbL
  rw [dg_zero, List.getD_eq_getElem?_getD, List.getElem?_replicate]
  split <;> rfl
/-! are there too many tables -/
theorem many_L {A : Nat} {h : HF} {tb : Nat → Nat → Int} {k33 k25 : HF → RO} (hk : kt A = 0 + 3) (hw : WF n ar tb) (hr : RepC h A n ar tb) : ∀ (m v N : Nat), v + m = sto n ar ar.length → m + 1 ≤ N → n ^ v ≤ 60000 → LX0_hasManyTables_4 F A k33 k25 N ((n ^ v : Nat) : Int) (v : Int) h = if 60000 < n ^ sto n ar ar.length then k25 h else k33 h := by
  have hs := sto_le hw.1.2 hw.2.2.1 ar.length (Nat.le_refl _)
  have hl := hw.2.1
  have hn := hw.1
  intro m
  induction m with
  | zero =>
    intro v N hv hN h6
    obtain ⟨N, rfl⟩ : ∃ M, N = M + 1 := ⟨N - 1, by omega⟩
    obtain rfl : v = sto n ar ar.length := by omega
    rw [LX0_hasManyTables_4, cellCount_eq hk hw hr, zbd_some, if_neg (by omega), if_neg (by omega)]
  | succ m ih =>
    intro v N hv hN h6
    obtain ⟨N, rfl⟩ : ∃ M, N = M + 1 := ⟨N - 1, by omega⟩
    have e : ((n ^ v : Nat) : Int) * (n : Int) = ((n ^ (v + 1) : Nat) : Int) := by rw [Nat.pow_succ, Int.natCast_mul]
    have b : n ^ (v + 1) ≤ 420000 := by rw [Nat.pow_succ]; exact Nat.le_trans (Nat.mul_le_mul h6 hn.2) (by decide)
    rw [LX0_hasManyTables_4, cellCount_eq hk hw hr, zbd_some, if_pos (by omega), zgf_eq, hr.1, zlet_eq, e, wr_id ⟨by omega, by omega⟩]
    by_cases q : 60000 < n ^ (v + 1)
    · have := Nat.pow_le_pow_right hn.1 (show v + 1 ≤ sto n ar ar.length by omega)
      rw [if_pos (by omega), if_pos (by omega)]
    · rw [if_neg (by omega), zlet_eq, wr_s (by omega)]
      exact ih (v + 1) N (by omega) (by omega) (by omega)
theorem many_c {A : Nat} {h : HF} {tb : Nat → Nat → Int} (hF : 200 ≤ F) (hk : kt A = 0 + 3) (hw : WF n ar tb) (hr : RepC h A n ar tb) : fX0_hasManyTables F A h = some (bl (60000 < n ^ sto n ar ar.length), h) := by
  have hs := sto_le hw.1.2 hw.2.2.1 ar.length (Nat.le_refl _)
  have hl := hw.2.1
  unfold fX0_hasManyTables
  rw [zjn_eq, zjn_eq]
  refine (many_L (F := F) hk hw hr (sto n ar ar.length) 0 F (by omega) (by omega) (by rw [Nat.pow_zero]; decide)).trans ?_
  by_cases q : 60000 < n ^ sto n ar ar.length
  · rw [if_pos q, bl_pos q]; rfl
  · rw [if_neg q, bl_neg q]; rfl
theorem wl_id {x : Int} (h : 0 ≤ x ∧ x < 1000000) : wl x = x := by unfold wl; exact Int.bmod_eq_of_le (by omega) (by omega)
theorem many_m {h : HF} {tb : Nat → Nat → Int} {k99 : Int → HF → RO} (hF : 200 ≤ F) (hw : WF n ar tb) (hr : RepM h 184 185 186 187 9 n ar tb) : ∀ (m v N V : Nat), v + m = sto n ar ar.length → m + 1 ≤ N → V ≤ 420000 → (V ≤ 60000 → V = n ^ v) → (60000 < V → 60000 < n ^ sto n ar ar.length) → ∃ W : Nat, LX12_refuseModels_61 F 181 (n : Int) k99 N (V : Int) (v : Int) h = k99 (W : Int) h ∧ (60000 < W ↔ 60000 < n ^ sto n ar ar.length) := by
  have hs := sto_le hw.1.2 hw.2.2.1 ar.length (Nat.le_refl _)
  have hl := hw.2.1
  have hn := hw.1
  have ce : fX12_cellsOf F 181 9 h = some (((sto n ar ar.length : Nat) : Int), h) := cellsOf_eq (F := F) (d := 9) (by omega) (by omega) hw hr
  intro m
  induction m with
  | zero =>
    intro v N V hv hN h4 h6 h7
    obtain ⟨N, rfl⟩ : ∃ M, N = M + 1 := ⟨N - 1, by omega⟩
    obtain rfl : v = sto n ar ar.length := by omega
    refine ⟨V, by rw [LX12_refuseModels_61, ce, zbd_some, if_neg (by omega)], h7, fun w => ?_⟩
    by_cases q : V ≤ 60000
    · have := h6 q; omega
    · omega
  | succ m ih =>
    intro v N V hv hN h4 h6 h7
    obtain ⟨N, rfl⟩ : ∃ M, N = M + 1 := ⟨N - 1, by omega⟩
    rw [LX12_refuseModels_61, ce, zbd_some, if_pos (by omega), zjn_eq]
    by_cases q : 60000 < V
    · rw [if_pos (show 0 < zcmp (V : Int) 60000 by unfold zcmp; rw [if_pos (by omega)]; decide)]
      simp only [zlet_eq, wr_s (show v < 1000000 by omega)]
      exact ih (v + 1) N V (by omega) (by omega) h4 (fun w => by omega) h7
    · have eV := h6 (by omega)
      have e : (V : Int) * (n : Int) = ((V * n : Nat) : Int) := (Int.natCast_mul _ _).symm
      have b : V * n ≤ 420000 := Nat.le_trans (Nat.mul_le_mul (show V ≤ 60000 by omega) hn.2) (by decide)
      have z : ¬ 0 < zcmp (V : Int) 60000 := by
        unfold zcmp
        rw [if_neg (by omega)]
        split <;> decide
      rw [if_neg z]
      simp only [zlet_eq, wr_s (show v < 1000000 by omega), e, wl_id (x := ((V * n : Nat) : Int)) ⟨by omega, by omega⟩]
      refine ih (v + 1) N (V * n) (by omega) (by omega) b (fun _ => by rw [Nat.pow_succ, ← eV]) (fun w => ?_)
      have := Nat.pow_le_pow_right hn.1 (show v + 1 ≤ sto n ar ar.length by omega)
      rw [Nat.pow_succ, ← eV] at this
      omega
end MR
theorem okA_WF {n v : Nat} (hn : 1 ≤ n ∧ n ≤ 7) (h : okA 4 v = true) : WF n (arsOf 4 v) (TB n (arsOf 4 v) 0) := by
  rw [TB_zero]; exact ars_WF hn (by decide) h
/-- the refusals of models and model, where the list is one; or what is asked for -/
theorem mtrial {F i : Nat} {a1 a2 : Int} {h : HF} (hF : 200 ≤ F) (hi : i < 4) (ra : rng a2) (h8 : h 8 0 = 0) (h6 : I6d h) :
    (∃ (r : Int) (h1 : HF), r ≠ 0 ∧ fX11_refuseModels F 0 a1 a2 (i : Int) h = some (r, h1) ∧ (∀ c k, ((c < 6 ∨ 9 < c) ∨ (c = 8 ∧ k = 0)) → h1 c k = h c k) ∧ ∀ g : HF, (∀ c i, 182 ≤ c → g c i = h c i) → ∃ g', fX12_refuseModels F 181 a1 a2 (i : Int) g = some (r, g') ∧ ∀ c k, ((c ≠ 184 ∧ c ≠ 185) ∨ k ≠ 9) → (c ≠ 186 ∨ k < 36 ∨ 40 ≤ k) → (c ≠ 187 ∨ k < 1764 ∨ 1960 ≤ k) → g' c k = g c k)
    ∨ ∃ (n v L nl ns T : Nat) (sg mn se lf rt lw : Nat → Nat) (h1 : HF), a1 = (n : Int) ∧ a2 = (v : Int) ∧ (1 ≤ n ∧ n ≤ 7) ∧ okA 4 v = true ∧ h 77 i = (L : Int) ∧ LCell L ∧ LLP nl ns T sg mn se lf rt lw ∧ fitP (arsOf 4 v) sg mn T ∧ n ^ sto n (arsOf 4 v) (arsOf 4 v).length ≤ 60000 ∧ LLC h L nl ns T sg mn se lf rt lw ∧ fX11_refuseModels F 0 a1 a2 (i : Int) h = some (0, h1) ∧ (∀ c k, ((c < 6 ∨ 9 < c) ∨ (c = 8 ∧ k = 0)) → h1 c k = h c k) ∧ ∀ g : HF, (∀ c i, 182 ≤ c → g c i = h c i) → ∃ g', fX12_refuseModels F 181 a1 a2 (i : Int) g = some (0, g') ∧ MLx g' 9 i n (arsOf 4 v) (TB n (arsOf 4 v) 0) nl ns T sg mn se lf rt lw ∧ ∀ c k, ((c ≠ 184 ∧ c ≠ 185) ∨ k ≠ 9) → (c ≠ 186 ∨ k < 36 ∨ 40 ≤ k) → (c ≠ 187 ∨ k < 1764 ∨ 1960 ≤ k) → g' c k = g c k := by
  obtain ⟨L, l1, l2, e1, e2⟩ := h6.2.1 i hi
  have qi : 0 ≤ (i : Int) ∧ (i : Int) < 4 := by omega
  have hLf := LCell_far l2
  by_cases q2 : h 205 i = 0
  · refine .inl ⟨-2, h, by decide, ?_, fun _ _ _ => rfl, fun g tk => ⟨g, ?_, fun _ _ _ _ _ => rfl⟩⟩
    · unfold fX11_refuseModels
      rw [isList_c, zbd_some, bl_pos qi, if_neg (show ¬ (1 : Int) = 0 by decide), zrl_at hi l1, held4, zbd_some, bl_neg (by omega), if_pos rfl]
    · unfold fX12_refuseModels
      rw [rdm24 (by omega), tk _ _ (by omega), if_pos q2]
  · obtain ⟨nl, ns, T, sg, mn, se, lf, rt, lw, b1, b2, b3⟩ := e2.resolve_left q2
    have nlp := b3.1.1
    have b11 := b1.1.1
    have eC : fX11_refuseModels F 0 a1 a2 (i : Int) h = zbd (fX11_isShape F a1 a2 h) fun r4 h => if r4 = 0 then some (-3, h) else zbd (fX0_shape F 6 a1 a2 h) fun _ h => zrl h (0 + 77) (i : Int) fun x6 => zbd (fX4_fits F x6 6 h) fun r7 h => if r7 = 0 then some (-4, h) else zbd (fX0_hasManyTables F 6 h) fun r8 h => if r8 = 0 then some (0, h) else some (-5, h) := by
      unfold fX11_refuseModels
      rw [isList_c, zbd_some, bl_pos qi, if_neg (show ¬ (1 : Int) = 0 by decide), zrl_at hi l1, held4, zbd_some, bl_pos (by omega), if_neg (show ¬ (1 : Int) = 0 by decide)]
      simp only [zjn_eq]
      try rfl
    have eM : ∀ g : HF, (∀ c i, 182 ≤ c → g c i = h c i) → fX12_refuseModels F 181 a1 a2 (i : Int) g = if 1 ≤ a1 ∧ a1 ≤ 7 ∧ 0 ≤ a2 ∧ okA 4 a2.toNat = true then zbd (fX12_blank F 181 9 a1 a2 g) fun _ h => zbd (fX12_fits F 181 9 (i : Int) h) fun r4 h => if r4 = 0 then some (-4, h) else LX12_refuseModels_61 F 181 a1 (fun x h => if 0 < zcmp x 60000 then some (-5, h) else some (0, h)) F 1 0 h else some (-3, g) := fun g tk => by
      unfold fX12_refuseModels
      rw [rdm24 (by omega), tk _ _ (by omega), if_neg q2, zjn_eq]
      by_cases w1 : a1 < 1
      · rw [if_pos w1, if_neg (by omega)]
      · rw [if_neg w1]
        by_cases w2 : 7 < a1
        · rw [if_pos w2, if_neg (by omega)]
        · rw [if_neg w2, areArities_eq (by omega) ra, zbd_some]
          by_cases w3 : 0 ≤ a2 ∧ okA 4 a2.toNat = true
          · rw [bl_pos w3, if_neg (show ¬ (1 : Int) = 0 by decide), if_pos ⟨by omega, by omega, w3⟩]
            simp only [zjn_eq]
          · rw [bl_neg w3, if_pos rfl, if_neg (fun w => w3 w.2.2)]
    rw [eC, isShape_eq (by omega) ra, zbd_some]
    by_cases qs : 1 ≤ a1 ∧ a1 ≤ 7 ∧ 0 ≤ a2 ∧ okA 4 a2.toNat = true
    · obtain ⟨n, rfl⟩ : ∃ n : Nat, a1 = (n : Int) := ⟨a1.toNat, by omega⟩
      obtain ⟨v, rfl⟩ : ∃ v : Nat, a2 = (v : Int) := ⟨a2.toNat, by omega⟩
      have hv := qs.2.2.2
      rw [Int.toNat_natCast] at hv
      have hn : 1 ≤ n ∧ n ≤ 7 := by omega
      have hw := okA_WF hn hv
      obtain ⟨h1, s1, s2, s3⟩ := shape_eq (F := F) (A := 6) hF (by decide) hn hv h8
      rw [← TB_zero (n := n) (ar := arsOf 4 v)] at s2
      have fr : ∀ c k, ((c < 6 ∨ 9 < c) ∨ (c = 8 ∧ k = 0)) → h1 c k = h c k := fun c k z => s3 c k (by omega)
      have b1' : LLC h1 L nl ns T sg mn se lf rt lw := LLC_keep (fun c i z => fr _ _ (by omega)) b1
      have hT := b3.1.2.2.1
      have h7 : ∀ t, t < T → sg t < 7 := fun t ht => (b3.2.1 t ht).1
      have f1 := fits_c_eq (F := F) (A := 6) (by omega) (by decide) hw s2 l2 hT b1'.1.2 (fun t ht => ⟨(b1'.2.1 t ht).1, (b1'.2.1 t ht).2.1⟩) h7
      rw [bl_pos qs, if_neg (show ¬ (1 : Int) = 0 by decide), s1, zbd_some, zrl_at hi (by rw [fr _ _ (by omega)]; exact l1), f1, zbd_some]
      -- the reference
      have M0 : ∀ g : HF, (∀ c i, 182 ≤ c → g c i = h c i) → ∃ g', fX12_blank F 181 9 (n : Int) (v : Int) g = some (0, g') ∧ MLx g' 9 i n (arsOf 4 v) (TB n (arsOf 4 v) 0) nl ns T sg mn se lf rt lw ∧ (fX12_fits F 181 9 (i : Int) g' = some (bi (alB (fitB (arsOf 4 v) sg mn) 0 T), g')) ∧ ∀ c k, ((c ≠ 184 ∧ c ≠ 185) ∨ k ≠ 9) → (c ≠ 186 ∨ k < 36 ∨ 40 ≤ k) → (c ≠ 187 ∨ k < 1764 ∨ 1960 ≤ k) → g' c k = g c k := fun g tk => by
        obtain ⟨g', t1, t2, t3⟩ := blank_eq (F := F) (d := 9) (h := g) hF (by decide) hn hv
        rw [← TB_zero (n := n) (ar := arsOf 4 v)] at t2
        have tg : ∀ c k, 188 ≤ c → g' c k = h c k := fun c k z => by rw [t3 _ _ (by omega) (by omega) (by omega), tk _ _ (by omega)]
        have hM : MLx g' 9 i n (arsOf 4 v) (TB n (arsOf 4 v) 0) nl ns T sg mn se lf rt lw := ⟨t2, LLM_move b3.1.2.2.1 b3.1.2.2.2 b3.1.2.1 (fun c z => tg _ _ (by omega)) (fun c t z w => tg _ _ (by omega)) (fun c t z w => tg _ _ (by omega)) (fun c t z w => tg _ _ (by omega)) b2⟩
        have f2 := fits_m_eq (F := F) (d := 9) (by omega) (by omega) hi hw t2 hT hM.2.1.2 (fun t ht => ⟨(hM.2.2.1 t ht).1, (hM.2.2.1 t ht).2.1⟩) h7
        exact ⟨g', t1, hM, f2, t3⟩
      cases qf : alB (fitB (arsOf 4 v) sg mn) 0 T with
      | false =>
        rw [show bi false = 0 from rfl, if_pos rfl]
        refine .inl ⟨-4, h1, by decide, rfl, fr, fun g tk => ?_⟩
        obtain ⟨g', t1, t2, t3, t4⟩ := M0 g tk
        refine ⟨g', ?_, t4⟩
        rw [eM g tk, if_pos qs, t1, zbd_some, t3, zbd_some, qf, show bi false = 0 from rfl, if_pos rfl]
      | true =>
        rw [show bi true = 1 from rfl, if_neg (show ¬ (1 : Int) = 0 by decide), many_c (F := F) hF (by decide) hw s2, zbd_some]
        have M1 : ∀ g : HF, (∀ c i, 182 ≤ c → g c i = h c i) → ∃ g' W : _, fX12_refuseModels F 181 (n : Int) (v : Int) (i : Int) g = (if 0 < zcmp ((W : Nat) : Int) 60000 then some (-5, g') else some (0, g')) ∧ (60000 < W ↔ 60000 < n ^ sto n (arsOf 4 v) (arsOf 4 v).length) ∧ MLx g' 9 i n (arsOf 4 v) (TB n (arsOf 4 v) 0) nl ns T sg mn se lf rt lw ∧ ∀ c k, ((c ≠ 184 ∧ c ≠ 185) ∨ k ≠ 9) → (c ≠ 186 ∨ k < 36 ∨ 40 ≤ k) → (c ≠ 187 ∨ k < 1764 ∨ 1960 ≤ k) → g' c k = g c k := fun g tk => by
          obtain ⟨g', t1, t2, t3, t4⟩ := M0 g tk
          have hs := sto_le hw.1.2 hw.2.2.1 (arsOf 4 v).length (Nat.le_refl _)
          have hl := hw.2.1
          obtain ⟨W, w1, w2⟩ := many_m (F := F) (k99 := fun x h => if 0 < zcmp x 60000 then some (-5, h) else some (0, h)) hF hw t2.1 (sto n (arsOf 4 v) (arsOf 4 v).length) 0 F 1 (by omega) (by omega) (by decide) (fun _ => by rw [Nat.pow_zero]) (fun w => absurd w (by decide))
          refine ⟨g', W, ?_, w2, t2, t4⟩
          rw [eM g tk, if_pos qs, t1, zbd_some, t3, zbd_some, qf, show bi true = 1 from rfl, if_neg (show ¬ (1 : Int) = 0 by decide)]
          exact w1
        by_cases qm : 60000 < n ^ sto n (arsOf 4 v) (arsOf 4 v).length
        · rw [bl_pos qm, if_neg (show ¬ (1 : Int) = 0 by decide)]
          refine .inl ⟨-5, h1, by decide, rfl, fr, fun g tk => ?_⟩
          obtain ⟨g', W, t1, t2, t3, t4⟩ := M1 g tk
          have := t2.mpr qm
          refine ⟨g', ?_, t4⟩
          rw [t1, if_pos (by unfold zcmp; rw [if_pos (by omega)]; decide)]
        · rw [bl_neg qm, if_pos rfl]
          refine .inr ⟨n, v, L, nl, ns, T, sg, mn, se, lf, rt, lw, h1, rfl, rfl, hn, hv, l1, l2, b3, fitB_iff.mp qf, by omega, b1, rfl, fr, fun g tk => ?_⟩
          obtain ⟨g', W, t1, t2, t3, t4⟩ := M1 g tk
          have : ¬ 60000 < W := fun w => qm (t2.mp w)
          refine ⟨g', ?_, t3, t4⟩
          rw [t1, if_neg (by unfold zcmp; rw [if_neg (by omega)]; split <;> decide)]
    · rw [bl_neg qs, if_pos rfl]
      exact .inl ⟨-3, h, by decide, rfl, fun _ _ _ => rfl, fun g tk => ⟨g, by rw [eM g tk, if_neg qs], fun _ _ _ _ _ => rfl⟩⟩
/-- draft and row 9 into a drawer -/
theorem put_both9 {I6 : HF → Prop} {F t n : Nat} {hA : HF} {ar : List Nat} {T : Nat → Nat → Int} (hF : 200 ≤ F) (ht : t < 8) (hI : InvP I4d I5d I6 hA) (hw : WF n ar T) (hr : RepC hA 6 n ar T) : ∃ g, fX11_putDraft F 0 (t : Int) hA = some (0, g) ∧ RepC g 6 n ar T ∧ (∀ c k, (c < 12 ∨ 76 < c) → (c ≠ 10 ∨ (k ≠ 2 ∧ k ≠ 3)) → (c < 117 + 4 * t ∨ 120 + 4 * t < c) → g c k = hA c k) ∧ ∀ hB, (∀ c k, (c ≤ 4 ∨ (c = 8 ∧ k = 0) ∨ (10 ≤ c ∧ c ≤ 86) ∨ (117 ≤ c ∧ c ≤ 180) ∨ c = 182 ∨ c = 183 ∨ ((c = 184 ∨ c = 185) ∧ k < 8) ∨ (c = 186 ∧ k < 32) ∨ (c = 187 ∧ k < 1568) ∨ (188 ≤ c ∧ c ≤ 192) ∨ (194 ≤ c ∧ c ≤ 205) ∨ (c = 181 ∧ (k = 2 ∨ k = 4 ∨ k = 5 ∨ k = 15 ∨ k = 16))) → hB c k = g c k) → RepM hB 184 185 186 187 9 n ar T → ∃ h3 h4, fX12_keep F 181 (t : Int) hB = some (0, h3) ∧ fX12_copy F 181 9 (t : Int) h3 = some (0, h4) ∧ InvP I4d I5d I6 h4 ∧ RepM h4 184 185 186 187 t n ar T := by
  obtain ⟨g, eg, rg6, rg, fg, K⟩ := put_draft (F := F) (d := t) (h := hA) hF ht (I5d_get hI.2.2.2.2.1) (I4d_get hI.2.2.2.1 ht) hw hr
  refine ⟨g, eg, rg6, fg, fun hB e hm => ?_⟩
  obtain ⟨h3, e3, k3, i5⟩ := K hB (fun c k x => by have := S5_out x; exact e c k (by omega)) (by rw [e _ _ (by omega), fg _ _ (by omega) (by omega) (by omega)]) (by rw [e _ _ (by omega), fg _ _ (by omega) (by omega) (by omega)]) (fun o _ => by rw [e _ _ (by omega), fg _ _ (by omega) (by omega) (by omega)]) (fun o _ => by rw [e _ _ (by omega), fg _ _ (by omega) (by omega) (by omega)])
  have m3 : RepM h3 184 185 186 187 9 n ar T := RepM_keep (fun k => ⟨k3 _ _ (by omega) (by omega), k3 _ _ (by omega) (by omega), k3 _ _ (by omega) (by omega), k3 _ _ (by omega) (by omega)⟩) hm
  obtain ⟨h4, e4, m4, f4⟩ := mcopy (F := F) (s := 9) (t := t) (h := h3) hF (by decide) (by omega) (by omega) hw.2.1 hw.1.2 hw.2.2.1 m3
  have rc : RepC h4 (117 + 4 * t) n ar T := RepC_keep (fun i k hi => by rw [f4 _ _ (by omega) (by omega) (by omega), k3 _ _ (by omega) (by omega), e _ _ (by omega)]) rg
  refine ⟨h3, h4, e3, e4, Inv_drw hI ?_ ht (Or.inr ⟨n, ar, T, hw, rc, m4⟩) ?_, m4⟩
  · intro c k x
    rw [f4 _ _ (by omega) (by omega) (by omega), k3 _ _ (by omega) (by omega), e _ _ (by omega), fg _ _ (by omega) (by omega) (by omega)]
  · exact I5d_congr (fun c k x => by have := S5_out x; exact f4 _ _ (by omega) (by omega) (by omega)) i5
