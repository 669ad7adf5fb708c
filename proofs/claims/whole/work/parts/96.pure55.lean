/-! count -/
def cnV (V : Nat → Int) : Nat → Nat → Nat → Nat
  | _, c, 0 => c
  | i, c, m + 1 => cnV V (i + 1) (if 0 < V i then c + 1 else c) m
theorem cnV_congr {V W : Nat → Int} : ∀ (m i c : Nat), (∀ j, i ≤ j → j < i + m → V j = W j) → cnV V i c m = cnV W i c m
  | 0, _, _, _ => rfl
  | m + 1, i, c, h => by
    simp only [cnV]
    rw [h i (Nat.le_refl _) (by omega), cnV_congr m (i + 1) _ (fun j h1 h2 => h j (by omega) (by omega))]
section CT
variable {F : Nat} {h : HF}
theorem full_c {k : Int → HF → RO} : ∀ (m i c N : Nat), i + m = 8 → c ≤ i → m + 1 ≤ N → LX11_fullDrawers_4 F 0 k N (c : Int) (i : Int) h = k ((cnV (fun i => h (117 + 4 * i) 0) i c m : Nat) : Int) h := by
  intro m
  induction m with
  | zero =>
    intro i c N hi hc hN
    obtain ⟨N, rfl⟩ : ∃ M, N = M + 1 := ⟨N - 1, by omega⟩
    rw [LX11_fullDrawers_4, if_neg (by omega)]
    rfl
  | succ m ih =>
    intro i c N hi hc hN
    obtain ⟨N, rfl⟩ : ∃ M, N = M + 1 := ⟨N - 1, by omega⟩
    rw [LX11_fullDrawers_4, if_pos (by omega), drw_at (by omega)]
    unfold fX0_isHeld
    simp only [zjn_eq, zlet_eq, zgf, cnV]
    rw [wr_s (by omega), wr_s (by omega)]
    by_cases q : 0 < h (117 + 4 * i) 0
    · rw [if_pos q, if_pos q, zrz_1, zbd_some, if_neg (by decide), ih (i + 1) (c + 1) N (by omega) (by omega) (by omega)]
    · rw [if_neg q, if_neg q, zrz_0, zbd_some, if_pos rfl, ih (i + 1) c N (by omega) (by omega) (by omega)]
theorem full_m {k : Int → HF → RO} : ∀ (m i c N : Nat), i + m = 8 → c ≤ i → m + 1 ≤ N → LX12_count_61 F 181 k N (c : Int) (i : Int) h = k ((cnV (fun i => h 184 i) i c m : Nat) : Int) h := by
  intro m
  induction m with
  | zero =>
    intro i c N hi hc hN
    obtain ⟨N, rfl⟩ : ∃ M, N = M + 1 := ⟨N - 1, by omega⟩
    rw [LX12_count_61, if_neg (by omega)]
    rfl
  | succ m ih =>
    intro i c N hi hc hN
    obtain ⟨N, rfl⟩ : ∃ M, N = M + 1 := ⟨N - 1, by omega⟩
    rw [LX12_count_61, if_pos (by omega), rdm3 (by omega)]
    simp only [zjn_eq, zlet_eq, cnV]
    rw [wr_s (by omega), wr_s (by omega), wr_id (x := (c : Int) + 0) ⟨by omega, by omega⟩, show (c : Int) + 0 = (c : Int) by omega]
    by_cases q : 0 < h 184 i
    · rw [if_pos q, if_pos q, ih (i + 1) (c + 1) N (by omega) (by omega) (by omega)]
    · rw [if_neg q, if_neg q, ih (i + 1) c N (by omega) (by omega) (by omega)]
theorem fullL_c (h6 : ∀ i, i < 4 → ∃ L : Nat, h 77 i = (L : Int) ∧ h L 0 = h 205 i) {k : Int → HF → RO} : ∀ (m i c N : Nat), i + m = 4 → c ≤ i → m + 1 ≤ N → LX11_fullLists_4 F 0 k N (c : Int) (i : Int) h = k ((cnV (fun i => h 205 i) i c m : Nat) : Int) h := by
  have k77 : kl (0 + 77) = 4 := by decide +kernel
  intro m
  induction m with
  | zero =>
    intro i c N hi hc hN
    obtain ⟨N, rfl⟩ : ∃ M, N = M + 1 := ⟨N - 1, by omega⟩
    rw [LX11_fullLists_4, if_neg (by omega)]
    rfl
  | succ m ih =>
    intro i c N hi hc hN
    obtain ⟨N, rfl⟩ : ∃ M, N = M + 1 := ⟨N - 1, by omega⟩
    obtain ⟨L, l1, l2⟩ := h6 i (by omega)
    have rl : ∀ f : Nat → RO, zrl h (0 + 77) (i : Int) f = f L := fun f => by
      unfold zrl
      rw [if_pos ⟨by omega, by rw [k77]; omega⟩, Int.toNat_natCast, show h (0 + 77) i = (L : Int) from l1, if_pos (by omega), Int.toNat_natCast]
    rw [LX11_fullLists_4, if_pos (by omega), rl]
    unfold fX4_isHeld
    simp only [zjn_eq, zlet_eq, zgf, cnV, l2]
    rw [wr_s (by omega), wr_s (by omega)]
    by_cases q : 0 < h 205 i
    · rw [if_pos q, if_pos q, zrz_1, zbd_some, if_neg (by decide), ih (i + 1) (c + 1) N (by omega) (by omega) (by omega)]
    · rw [if_neg q, if_neg q, zrz_0, zbd_some, if_pos rfl, ih (i + 1) c N (by omega) (by omega) (by omega)]
theorem fullL_m {k : Int → HF → RO} : ∀ (m i c N : Nat), i + m = 4 → c ≤ i → m + 1 ≤ N → LX12_count_94 F 181 k N (c : Int) (i : Int) h = k ((cnV (fun i => h 205 i) i c m : Nat) : Int) h := by
  intro m
  induction m with
  | zero =>
    intro i c N hi hc hN
    obtain ⟨N, rfl⟩ : ∃ M, N = M + 1 := ⟨N - 1, by omega⟩
    rw [LX12_count_94, if_neg (by omega)]
    rfl
  | succ m ih =>
    intro i c N hi hc hN
    obtain ⟨N, rfl⟩ : ∃ M, N = M + 1 := ⟨N - 1, by omega⟩
    rw [LX12_count_94, if_pos (by omega), rdm24 (by omega)]
    simp only [zjn_eq, zlet_eq, cnV]
    rw [wr_s (by omega), wr_s (by omega), wr_id (x := (c : Int) + 0) ⟨by omega, by omega⟩, show (c : Int) + 0 = (c : Int) by omega]
    by_cases q : 0 < h 205 i
    · rw [if_pos q, if_pos q, ih (i + 1) (c + 1) N (by omega) (by omega) (by omega)]
    · rw [if_neg q, if_neg q, ih (i + 1) c N (by omega) (by omega) (by omega)]
end CT
/-- of the law lists this wants only how many laws each has, on both sides -/
theorem ps_count {I6 : HF → Prop} {F : Nat} (hF : 9 ≤ F) (h6 : ∀ h, I6 (msk S6 h) → ∀ i, i < 4 → ∃ L : Nat, h 77 i = (L : Int) ∧ h L 0 = h 205 i) : PS_count F (InvP I4d I5d I6) := by
  intro h a1 hI _
  have hI' := Inv_thrown hI
  have hD : ∀ d, d < 8 → DR h d := fun d hd => I4d_get hI.2.2.2.1 hd
  obtain ⟨⟨t, tc, tm, _, _⟩, ⟨o, oc, om, _⟩, _, _, h5, hl⟩ := hI
  obtain ⟨ol, kp, ce, _, _, _, _, b2, _, b4, _⟩ := I5d_get h5
  have tg : ∀ c k, (c ≠ 181 ∨ k ≠ 0) → stp h 181 0 0 c k = h c k := fun c k x => stp_ne x
  suffices hs : ∃ r, fX11_count F 0 a1 h = some (r, h) ∧ fX12_count F 181 a1 h = some (r, stp h 181 0 0) by
    obtain ⟨r, e1, e2⟩ := hs
    exact ⟨r, h, _, e1, e2, hI'⟩
  unfold fX11_count fX12_count
  simp only [zjn, zpf, zgf]
  by_cases q0 : a1 = 0
  · rw [if_pos q0, if_pos q0]
    refine ⟨_, rfl, ?_⟩
    rw [tg _ _ (by decide), show h (0 + 1) 1 = _ from tc.1, tm.1]
  · rw [if_neg q0, if_neg q0]
    by_cases q1 : a1 = 1
    · rw [if_pos q1, if_pos q1]
      refine ⟨_, rfl, ?_⟩
      rw [tg _ _ (by decide), show h (0 + 3) 1 = _ from oc.1, om.1]
    · rw [if_neg q1, if_neg q1]
      by_cases q2 : a1 = 2
      · rw [if_pos q2, if_pos q2]
        refine ⟨_, rfl, ?_⟩
        rw [tg _ _ (by decide), show h (0 + 10) 3 = _ from b2, b4]
      · rw [if_neg q2, if_neg q2]
        by_cases q3 : a1 = 3
        · rw [if_pos q3, if_pos q3]
          refine ⟨((cnV (fun i => h 184 i) 0 0 8 : Nat) : Int), ?_, ?_⟩
          · unfold fX11_fullDrawers
            simp only [zjn_eq]
            have := full_c (F := F) (h := h) (k := fun x h => some (x, h)) 8 0 0 F (by omega) (by omega) (by omega)
            rw [cnV_congr 8 0 0 (W := fun i => h 184 i) (fun j _ hj => (DR_size (hD j (by omega))).1)] at this
            exact congrArg (fun z => zbd z fun r8 h => some (r8, h)) this
          · have := full_m (F := F) (h := stp h 181 0 0) (k := fun x h => some (x, h)) 8 0 0 F (by omega) (by omega) (by omega)
            rw [cnV_congr 8 0 0 (W := fun i => h 184 i) (fun j _ _ => tg _ _ (by omega))] at this
            exact this
        · rw [if_neg q3, if_neg q3]
          by_cases q4 : a1 = 4
          · rw [if_pos q4, if_pos q4]
            refine ⟨((cnV (fun i => h 205 i) 0 0 4 : Nat) : Int), ?_, ?_⟩
            · unfold fX11_fullLists
              simp only [zjn_eq]
              have := fullL_c (F := F) (h := h) (h6 h hl) (k := fun x h => some (x, h)) 4 0 0 F (by omega) (by omega) (by omega)
              exact congrArg (fun z => zbd z fun r10 h => some (r10, h)) this
            · have := fullL_m (F := F) (h := stp h 181 0 0) (k := fun x h => some (x, h)) 4 0 0 F (by omega) (by omega) (by omega)
              rw [cnV_congr 4 0 0 (W := fun i => h 205 i) (fun j _ _ => tg _ _ (by omega))] at this
              exact this
          · rw [if_neg q4, if_neg q4]
            exact ⟨_, rfl, rfl⟩
