/-! models and model, the calls -/
theorem bi_of {a : Int} (h : a = 0 ∨ a = 1) : ∃ u : Bool, a = bi u := by
  rcases h with rfl | rfl
  · exact ⟨false, rfl⟩
  · exact ⟨true, rfl⟩
theorem ps_models {F : Nat} (hF : 70000 ≤ F) : PS_models F (InvP I4d I5d I6d) := by
  intro h a1 a2 a3 a4 hI _ ra _ h4
  have h6 := I6d_get hI.2.2.2.2.2
  have h8 := I4d_8 hI.2.2.2.1
  obtain ⟨u, rfl⟩ := bi_of h4
  unfold fX11_models fX12_models
  by_cases qi : 0 ≤ a3 ∧ a3 < 4
  · obtain ⟨i, rfl⟩ : ∃ i : Nat, a3 = (i : Int) := ⟨a3.toNat, by omega⟩
    have hi : i < 4 := by omega
    rcases mtrial (F := F) (a1 := a1) (a2 := a2) (by omega) hi ra h8 h6 with ⟨r, h1, r0, x1, x2, x3⟩ | ⟨n, v, L, nl, ns, T, sg, mn, se, lf, rt, lw, h1, rfl, rfl, hn, hv, l1, l2, hP, hf, hM, hL, x1, x2, x3⟩
    · obtain ⟨g', y1, y2⟩ := x3 (stp h1 181 0 0) (fun c i z => by rw [stp_ne (by omega), x2 _ _ (by omega)])
      refine ⟨r, h1, g', ?_, ?_, Inv_while hI (fun c k z => by rw [y2 _ _ (by omega) (by omega) (by omega), stp_ne (by omega), x2 _ _ (by omega)])⟩
      · rw [x1, zbd_some, if_neg r0]
      · rw [zpf_eq, isList_m, zbd_some, bl_pos qi, if_neg (show ¬ (1 : Int) = 0 by decide), y1, zbd_some, if_neg r0]
    · have hLf := LCell_far l2
      have hw := okA_WF hn hv
      obtain ⟨h2, s1, s2, s3⟩ := shape_eq (F := F) (A := 6) (h := h1) (by omega) (by decide) hn hv (by rw [x2 _ _ (by omega)]; exact h8)
      rw [← TB_zero (n := n) (ar := arsOf 4 v)] at s2
      have fr : ∀ c k, ((c < 6 ∨ 9 < c) ∨ (c = 8 ∧ k = 0)) → h2 c k = h c k := fun c k z => by rw [s3 c k (by omega), x2 c k z]
      have hX : CLx h2 6 L n (arsOf 4 v) (TB n (arsOf 4 v) 0) nl ns T sg mn se lf rt lw := ⟨s2, LLC_keep (fun c i z => fr _ _ (by omega)) hL⟩
      obtain ⟨h3, f3, y⟩ := seek_m (F := F) (u3 := -1) hF hn hw.2.1 hw.2.2.1 l2 hP hf hM hX
      rcases y with ⟨y1, y2, y3, -⟩ | ⟨f, -, -, w, -⟩
      · obtain ⟨g', z1, z2, z3⟩ := x3 (stp h3 181 0 0) (fun c i z => by rw [stp_ne (by omega), f3 _ _ (by omega) (by omega) (by omega) (by omega), fr _ _ (by omega)])
        obtain ⟨g2, w1, w2⟩ := findModel_m (F := F) (u := u) (u3 := -1) hF hn hw.2.1 hw.2.2.1 hi hP hf hM z2
        rcases w2 with ⟨w2, w3, -⟩ | ⟨f, -, -, w, -⟩
        · refine ⟨((sumF (fun c => b1 (cnB n (arsOf 4 v) nl sg mn se lf rt lw u c)) (n ^ sto n (arsOf 4 v) (arsOf 4 v).length) 0 : Nat) : Int), h3, g2, ?_, ?_, Inv_while hI (fun c k z => by rw [w1 _ _ (by omega) (by omega) (by omega), z3 _ _ (by omega) (by omega) (by omega), stp_ne (by omega), f3 _ _ (by omega) (by omega) (by omega) (by omega), fr _ _ (by omega)])⟩
          · rw [x1, zbd_some, if_pos rfl]
            show zbd (fX0_shape F 6 (n : Int) (v : Int) h1) _ = _
            rw [s1, zbd_some, zrl_at hi (by rw [fr _ _ (by omega)]; exact l1)]
            show zbd (fX8_seek F 114 6 L (-1) h2) _ = _
            rw [y1, zbd_some, zjn_eq]
            cases u with
            | false =>
              rw [if_pos (show bi false = 0 from rfl), zgf_eq]
              show some (h3 114 1, h3) = _
              rw [y3]
            | true =>
              rw [if_neg (show ¬ bi true = 0 by decide), zgf_eq]
              show some (h3 114 0, h3) = _
              rw [y2]
          · rw [zpf_eq, isList_m, zbd_some, bl_pos qi, if_neg (show ¬ (1 : Int) = 0 by decide), z1, zbd_some, if_pos rfl, w2, zbd_some, zgf_eq, w3]
        · omega
      · omega
  · refine ⟨-3, h, stp h 181 0 0, ?_, ?_, Inv_thrown hI⟩
    · unfold fX11_refuseModels
      rw [isList_c, zbd_some, bl_neg qi, if_pos rfl, zbd_some, if_neg (by decide)]
    · rw [zpf_eq, isList_m, zbd_some, bl_neg qi, if_pos rfl]
theorem stb_turns {n f : Nat} {ar : List Nat} (hn : 1 ≤ n ∧ n ≤ 7) (hl : ar.length ≤ 4) (h2 : ∀ o, o < ar.length → ar.getD o 0 ≤ 2) (hf : f < n ^ sto n ar ar.length) : (PL n).countP (fun x => decide (lnL (TB n ar f) n ar x = lnL (TB n ar f) n ar (List.range n))) = stb n ar f := by
  unfold stb
  have hw := TB_WF hn hl h2 hf
  refine List.countP_congr fun x hx => ?_
  have hx' := ((PL_all hn).2.1 x).mp hx
  have e : wT (TB n ar f) n ar (List.range n) = f := act_id hn hl h2 hf
  simp only [decide_eq_true_eq]
  refine ⟨fun w => ?_, fun w => (wT_cmp hw hx' (IsP_id hn.1)).2.2 ?_⟩
  · have : act n ar x f = wT (TB n ar f) n ar (List.range n) := by unfold act wT; rw [w]
    rw [this, e]
  · rw [e]; exact w
theorem ps_model {F : Nat} (hF : 70000 ≤ F) : PS_model F (InvP I4d I5d I6d) := by
  intro h a1 a2 a3 a4 a5 hI _ ra _ _ _
  have h6 := I6d_get hI.2.2.2.2.2
  have h8 := I4d_8 hI.2.2.2.1
  unfold fX11_model fX12_model
  by_cases qi : 0 ≤ a3 ∧ a3 < 4
  · by_cases qt : 0 ≤ a5 ∧ a5 < 8
    · obtain ⟨i, rfl⟩ : ∃ i : Nat, a3 = (i : Int) := ⟨a3.toNat, by omega⟩
      obtain ⟨t, rfl⟩ : ∃ t : Nat, a5 = (t : Int) := ⟨a5.toNat, by omega⟩
      have hi : i < 4 := by omega
      have ht : t < 8 := by omega
      rcases mtrial (F := F) (a1 := a1) (a2 := a2) (by omega) hi ra h8 h6 with ⟨r, h1, r0, x1, x2, x3⟩ | ⟨n, v, L, nl, ns, T, sg, mn, se, lf, rt, lw, h1, rfl, rfl, hn, hv, l1, l2, hP, hf, hM, hL, x1, x2, x3⟩
      · obtain ⟨g', y1, y2⟩ := x3 (stp h1 181 0 0) (fun c i z => by rw [stp_ne (by omega), x2 _ _ (by omega)])
        refine ⟨r, h1, g', ?_, ?_, Inv_while hI (fun c k z => by rw [y2 _ _ (by omega) (by omega) (by omega), stp_ne (by omega), x2 _ _ (by omega)])⟩
        · rw [isDrawer_c, zbd_some, bl_pos qt, if_neg (show ¬ (1 : Int) = 0 by decide), x1, zbd_some, if_neg r0]
        · rw [zpf_eq, isList_m, zbd_some, zjn_eq, bl_pos qi, if_neg (show ¬ (1 : Int) = 0 by decide), isDrawer_m, zbd_some, bl_pos qt, if_neg (show ¬ (1 : Int) = 0 by decide), y1, zbd_some, if_neg r0]
      · have hLf := LCell_far l2
        have hw := okA_WF hn hv
        -- up to where the search begins, on the side of the reference
        have ref0 : ∀ g : HF, (∀ c i, 182 ≤ c → g c i = h c i) → ∃ g', MLx g' 9 i n (arsOf 4 v) (TB n (arsOf 4 v) 0) nl ns T sg mn se lf rt lw ∧ (∀ c k, ((c ≠ 184 ∧ c ≠ 185) ∨ k ≠ 9) → (c ≠ 186 ∨ k < 36 ∨ 40 ≤ k) → (c ≠ 187 ∨ k < 1764 ∨ 1960 ≤ k) → g' c k = g c k) ∧ fX12_refuseModels F 181 (n : Int) (v : Int) (i : Int) g = some (0, g') := fun g tk => by
          obtain ⟨g', z1, z2, z3⟩ := x3 g tk
          exact ⟨g', z2, z3, z1⟩
        by_cases q4 : a4 < 0
        · obtain ⟨g', z1, z2, z3⟩ := ref0 (stp h1 181 0 0) (fun c i z => by rw [stp_ne (by omega), x2 _ _ (by omega)])
          refine ⟨-3, h1, g', ?_, ?_, Inv_while hI (fun c k z => by rw [z2 _ _ (by omega) (by omega) (by omega), stp_ne (by omega), x2 _ _ (by omega)])⟩
          · rw [isDrawer_c, zbd_some, bl_pos qt, if_neg (show ¬ (1 : Int) = 0 by decide), x1, zbd_some, if_pos rfl, if_pos q4]
          · rw [zpf_eq, isList_m, zbd_some, zjn_eq, bl_pos qi, if_neg (show ¬ (1 : Int) = 0 by decide), isDrawer_m, zbd_some, bl_pos qt, if_neg (show ¬ (1 : Int) = 0 by decide), z3, zbd_some, if_pos rfl, zjn_eq, if_pos q4]
        · obtain ⟨h2, s1, s2, s3⟩ := shape_eq (F := F) (A := 6) (h := h1) (by omega) (by decide) hn hv (by rw [x2 _ _ (by omega)]; exact h8)
          rw [← TB_zero (n := n) (ar := arsOf 4 v)] at s2
          have fr : ∀ c k, ((c < 6 ∨ 9 < c) ∨ (c = 8 ∧ k = 0)) → h2 c k = h c k := fun c k z => by rw [s3 c k (by omega), x2 c k z]
          have hX : CLx h2 6 L n (arsOf 4 v) (TB n (arsOf 4 v) 0) nl ns T sg mn se lf rt lw := ⟨s2, LLC_keep (fun c i z => fr _ _ (by omega)) hL⟩
          obtain ⟨h3, f3, y⟩ := seek_m (F := F) (u3 := a4) hF hn hw.2.1 hw.2.2.1 l2 hP hf hM hX
          rcases y with ⟨y1, -, -, y4⟩ | ⟨f, y1, y2, y3, y4, y5, y6⟩
          · obtain ⟨g', z1, z2, z3⟩ := ref0 (stp h3 181 0 0) (fun c i z => by rw [stp_ne (by omega), f3 _ _ (by omega) (by omega) (by omega) (by omega), fr _ _ (by omega)])
            obtain ⟨g2, w1, w2⟩ := findModel_m (F := F) (u := true) (u3 := a4) hF hn hw.2.1 hw.2.2.1 hi hP hf hM z1
            rcases w2 with ⟨w2, -, -⟩ | ⟨f, e1, e2, e3, -⟩
            · have w2' : fX12_findModel F 181 (i : Int) 1 a4 g' = some (0, g2) := w2
              refine ⟨-3, h3, g2, ?_, ?_, Inv_while hI (fun c k z => by rw [w1 _ _ (by omega) (by omega) (by omega), z2 _ _ (by omega) (by omega) (by omega), stp_ne (by omega), f3 _ _ (by omega) (by omega) (by omega) (by omega), fr _ _ (by omega)])⟩
              · rw [isDrawer_c, zbd_some, bl_pos qt, if_neg (show ¬ (1 : Int) = 0 by decide), x1, zbd_some, if_pos rfl, if_neg q4]
                show zbd (fX0_shape F 6 (n : Int) (v : Int) h1) _ = _
                rw [s1, zbd_some, zrl_at hi (by rw [fr _ _ (by omega)]; exact l1)]
                show zbd (fX8_seek F 114 6 L a4 h2) _ = _
                rw [y1, zbd_some, if_pos rfl]
              · rw [zpf_eq, isList_m, zbd_some, zjn_eq, bl_pos qi, if_neg (show ¬ (1 : Int) = 0 by decide), isDrawer_m, zbd_some, bl_pos qt, if_neg (show ¬ (1 : Int) = 0 by decide), z3, zbd_some, if_pos rfl, zjn_eq, if_neg q4, w2', zbd_some, if_pos rfl]
            · exact absurd e3 (y4 f e1 e2)
          · have hwf := TB_WF hn hw.2.1 hw.2.2.1 y1
            have hIA : InvP I4d I5d I6d h3 := Inv_while hI (fun c k z => by rw [f3 _ _ (by omega) (by omega) (by omega) (by omega), fr _ _ (by omega)])
            obtain ⟨g, g1, g2, g3, K⟩ := put_both9 (F := F) (t := t) (by omega) ht hIA hwf y5
            have tg : ∀ c k, (c ≠ 181 ∨ k ≠ 0) → stp g 181 0 0 c k = g c k := fun c k x => stp_ne x
            obtain ⟨g', z1, z2, z3⟩ := ref0 (stp g 181 0 0) (fun c i z => by rw [stp_ne (by omega), g3 _ _ (by omega) (by omega) (by omega), f3 _ _ (by omega) (by omega) (by omega) (by omega), fr _ _ (by omega)])
            obtain ⟨hB, w1, w2⟩ := findModel_m (F := F) (u := true) (u3 := a4) hF hn hw.2.1 hw.2.2.1 hi hP hf hM z1
            rcases w2 with ⟨-, -, w2⟩ | ⟨f', e1, e2, e3, e4, e5⟩
            · exact absurd y3 (w2 f y1 y2)
            · obtain rfl : f = f' := cn_uniq y2 e2 (by omega)
              have e4' : fX12_findModel F 181 (i : Int) 1 a4 g' = some (1, hB) := e4
              obtain ⟨m3, m4, k1, k2, k3, k4⟩ := K hB (fun c k z => by rw [w1 _ _ (by omega) (by omega) (by omega), z2 _ _ (by omega) (by omega) (by omega), tg _ _ (by omega)]) e5
              obtain ⟨m5, u1, u2⟩ := turns_m (F := F) (d := t) (by omega) (by omega) hwf k4
              rw [stb_turns hn hw.2.1 hw.2.2.1 y1] at u1
              refine ⟨(stb n (arsOf 4 v) f : Int), g, m5, ?_, ?_, Inv_while k3 (fun c k x => u2 c k (by omega) (by omega))⟩
              · rw [isDrawer_c, zbd_some, bl_pos qt, if_neg (show ¬ (1 : Int) = 0 by decide), x1, zbd_some, if_pos rfl, if_neg q4]
                show zbd (fX0_shape F 6 (n : Int) (v : Int) h1) _ = _
                rw [s1, zbd_some, zrl_at hi (by rw [fr _ _ (by omega)]; exact l1)]
                show zbd (fX8_seek F 114 6 L a4 h2) _ = _
                rw [y4, zbd_some, if_neg (show ¬ (1 : Int) = 0 by decide), g1, zbd_some, zgf_eq]
                show some (g 105 2, g) = _
                rw [g3 _ _ (by omega) (by omega) (by omega), y6]
              · rw [zpf_eq, isList_m, zbd_some, zjn_eq, bl_pos qi, if_neg (show ¬ (1 : Int) = 0 by decide), isDrawer_m, zbd_some, bl_pos qt, if_neg (show ¬ (1 : Int) = 0 by decide), z3, zbd_some, if_pos rfl, zjn_eq, if_neg q4, e4', zbd_some, if_neg (show ¬ (1 : Int) = 0 by decide), k1, zbd_some, k2, zbd_some, u1, zbd_some]
    · refine ⟨-3, h, stp h 181 0 0, ?_, ?_, Inv_thrown hI⟩
      · rw [isDrawer_c, zbd_some, bl_neg qt, if_pos rfl]
      · rw [zpf_eq, isList_m, zbd_some, zjn_eq, bl_pos qi, if_neg (show ¬ (1 : Int) = 0 by decide), isDrawer_m, zbd_some, bl_neg qt, if_pos rfl]
  · refine ⟨-3, h, stp h 181 0 0, ?_, ?_, Inv_thrown hI⟩
    · rw [isDrawer_c, zbd_some]
      by_cases qt : 0 ≤ a5 ∧ a5 < 8
      · rw [bl_pos qt, if_neg (show ¬ (1 : Int) = 0 by decide)]
        unfold fX11_refuseModels
        rw [isList_c, zbd_some, bl_neg qi, if_pos rfl, zbd_some, if_neg (by decide)]
      · rw [bl_neg qt, if_pos rfl]
    · rw [zpf_eq, isList_m, zbd_some, zjn_eq, bl_neg qi, if_pos rfl]
