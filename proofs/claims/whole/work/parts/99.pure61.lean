/-! read: the call -/
theorem rng_small {x : Nat} (h : x ≤ 3) : rng (x : Int) := ⟨by omega, by omega⟩
theorem ps_read {I6 : HF → Prop} {F : Nat} (hF : 6000 ≤ F) : PS_read F (InvP I4d I5d I6) := by
  intro h a1 hI _
  have hD : ∀ d, d < 8 → DR h d := fun d hd => I4d_get hI.2.2.2.1 hd
  have h8 := I4d_8 hI.2.2.2.1
  have h5 := I5d_get hI.2.2.2.2.1
  have hI0 := hI
  obtain ⟨⟨t, tc, tm, hlt, hb⟩, _, h3, _, _, _⟩ := hI
  -- from a heap that differs in scratch alone
  have fin : ∀ h' : HF, h' 1 1 = 0 → h' 181 2 = 0 → (∀ c i, (c = 3 ∨ c = 4 ∨ (c = 8 ∧ i = 0) ∨ (10 ≤ c ∧ c ≤ 85) ∨ (117 ≤ c ∧ c ≤ 180) ∨ c = 0 ∨ c = 183 ∨ ((c = 184 ∨ c = 185) ∧ i < 8) ∨ (c = 186 ∧ i < 32) ∨ (c = 187 ∧ i < 1568) ∨ (188 ≤ c ∧ c ≤ 192) ∨ (194 ≤ c ∧ c ≤ 205) ∨ (c = 181 ∧ (i = 4 ∨ i = 15 ∨ i = 16))) → h' c i = h c i) → h' 86 0 = h' 181 5 → rng (h' 86 0) → InvP I4d I5d I6 h' := fun h' e1 e2 e e3 e4 => Inv_read hI0 e1 e2 (fun c i q => e c i (by
      rcases q with q | q | q | q | q
      · omega
      · omega
      · omega
      · omega
      · have := S6_out q
        omega)) e3 e4 (by rw [e _ _ (by omega)]; exact h8) (fun d hd => DR_off (fun i k hi => e _ _ (by omega)) (e _ _ (by omega)) (e _ _ (by omega)) (fun o ho => e _ _ (by omega)) (fun k hk => e _ _ (by omega)) (hD d hd)) (I5d_congr (fun c k x => by have := S5_out x; exact e c k (by omega)) h5)
  unfold fX11_read fX12_read fX10_readAlgebra fX10_begin fX10_readTables fX10_passOver
  simp only [zjn_eq, zpf, zgf, zlet_eq]
  by_cases q : 0 ≤ a1 ∧ a1 < 8
  · obtain ⟨d, rfl⟩ : ∃ t : Nat, a1 = (t : Int) := ⟨a1.toNat, by omega⟩
    have hd : d < 8 := by omega
    have br := bA_rng (i := 0) hb
    generalize hhB : stp (stp (stp (stp h (0 + 86) 2 (((0 + 1 : Nat)) : Int)) (0 + 86) 3 0) (0 + 86) 0 0) (0 + 86) 1 0 = hB
    have B2 : hB 86 2 = ((1 : Nat) : Int) := by rw [← hhB, stp_ne (by omega), stp_ne (by omega), stp_ne (by omega), stp_eq]
    have Bk : ∀ c i, c ≠ 86 → hB c i = h c i := fun c i z => by rw [← hhB, stp_ne (by omega), stp_ne (by omega), stp_ne (by omega), stp_ne (by omega)]
    have B0 : hB 86 0 = 0 := by rw [← hhB, stp_ne (by omega), stp_eq]
    have tB : TP hB 1 1 2 t := TP_keep tc (Bk _ _ (by decide)) (fun i => Bk _ _ (by decide))
    have by0 : fX1_byteAt F 1 0 hB = some (bA t 0, hB) := byteAt_c (i := 0) tB hlt
    -- the reference's beginning, from a heap g that the class left
    have mst : ∀ g : HF, g 181 2 = (t.length : Int) → (∀ i, i < t.length → g 182 i = t.getD i 0) → ∃ gR, gR = stp (stp (stp (stp g 181 0 0) 181 2 0) 181 5 0) 181 17 0 ∧ fX12_byteAt F 181 (t.length : Int) gR = some (bA t 0, gR) := fun g _ e2 => ⟨_, rfl, byteAt_m (i := 0) (fun i hi => by rw [stp_ne (by omega), stp_ne (by omega), stp_ne (by omega), stp_ne (by omega)]; exact e2 i hi) hlt (by rw [stp_eq]; rfl)⟩
    by_cases q1 : 1 ≤ bA t 0 - 48 ∧ bA t 0 - 48 ≤ 7
    · obtain ⟨n, en⟩ : ∃ n : Nat, bA t 0 - 48 = (n : Int) := ⟨(bA t 0 - 48).toNat, by omega⟩
      have hn : 1 ≤ n ∧ n ≤ 7 := by omega
      generalize hhX : stp (stp (stp (stp hB 6 0 (n : Int)) 6 1 0) 6 2 0) 86 3 1 = hX
      have Xk : ∀ c i, (c ≠ 6 ∨ 2 < i) → (c ≠ 86 ∨ i ≠ 3) → hX c i = hB c i := fun c i z w => by rw [← hhX, stp_ne w, stp_ne (by omega), stp_ne (by omega), stp_ne (by omega)]
      have rX : RepC hX 6 n [] (tbT t []) := by
        refine ⟨?_, ?_, ?_, fun o ho => absurd ho (by simp), fun o ho => ?_, fun o ho => absurd ho (by simp)⟩
        · rw [← hhX, stp_ne (by omega), stp_ne (by omega), stp_ne (by omega), stp_eq]
        · rw [← hhX, stp_ne (by omega), stp_ne (by omega), stp_eq]; rfl
        · rw [← hhX, stp_ne (by omega), stp_eq]; rfl
        · have : o = 0 := by simpa using ho
          subst this
          rw [Xk _ _ (by omega) (by omega), Bk _ _ (by omega)]; exact h8
      obtain ⟨hO, x1, x2, x3, x4⟩ := ops_c (F := F) (n := n) (t := t) (k := fun h => some (0, h)) (by omega) hn hb hlt 5 1 F [] [] hX (by simp) (by simp) (by omega) (by omega) (TP_keep tB (Xk _ _ (by omega) (by omega)) (fun i => Xk _ _ (by omega) (by omega))) (by rw [Xk _ _ (by omega) (by omega)]; exact B2) (by rw [← hhX, stp_eq]; rfl) (by rw [Xk _ _ (by omega) (by omega)]; exact B0) rfl (fun x hx => absurd hx (by simp)) rX
      obtain ⟨k3, kok⟩ := rdo_ok (t := t) (n := n) 5 1 [] [] (by simp) (by simp) (fun x hx => absurd hx (by simp)) rfl (fun o ho => absurd ho (by simp))
      have Ok : ∀ c i, (c < 6 ∨ 9 < c ∨ (c = 8 ∧ i = 0)) → c ≠ 86 → c ≠ 1 → stp hO 1 1 0 c i = h c i := fun c i z w v => by rw [stp_ne (by omega), x4 c i z (by omega), Xk c i (by omega) (by omega), Bk c i w]
      -- the class up to its own answer
      have redC : ∀ (r : Int) (g : HF), (if stp hO 1 1 0 86 0 = 0 then zbd (fX11_putDraft F 0 (d : Int) (stp hO 1 1 0)) fun _ h => some (h 6 0, h) else some (wr (-100 - stp hO 1 1 0 86 1), stp hO 1 1 0)) = some (r, g) → (zbd (zbd (if bA t 0 - 48 < 1 then zbd (fX10_failAt F 86 0 1 hB) fun _ h => some (0, h) else if 7 < bA t 0 - 48 then zbd (fX10_failAt F 86 0 1 hB) fun _ h => some (0, h) else zbd (fX0_begin F 6 (bA t 0 - 48) hB) fun _ h => LX10_readTables_46 F 86 6 (fun h => some (0, h)) F 1 0 (stp h 86 3 1)) fun _ h => some (0, stp h 1 1 0)) fun _ h => if h 86 0 = 0 then zbd (fX11_putDraft F 0 (d : Int) h) fun _ h => some (h 6 0, h) else some (wr (-100 - h 86 1), h)) = some (r, g) := fun r g e => by
        rw [if_neg (by omega), if_neg (by omega), en, show fX0_begin F 6 (n : Int) hB = some (0, stp (stp (stp hB 6 0 (n : Int)) 6 1 0) 6 2 0) from rfl, zbd_some, hhX, show LX10_readTables_46 F 86 6 (fun h => some (0, h)) F 1 0 hX = some (0, hO) from x1, zbd_some, zbd_some]
        exact e
      have hC0 : ∀ c i, (c ≠ 1 ∨ i ≠ 1) → stp hO 1 1 0 c i = hO c i := fun c i z => stp_ne z
      have hC1 : stp hO 1 1 0 1 1 = 0 := stp_eq _ _ _ _
      generalize stp hO 1 1 0 = hC at Ok redC hC0 hC1
      -- the reference, from any heap g that the class left
      have ref : ∀ (g : HF) (k320 : Int → HF → RO), g 181 2 = (t.length : Int) → (∀ i, i < t.length → g 182 i = t.getD i 0) → ∃ h', ((zbd (fX12_isDrawer F 181 (d : Int) (stp (stp g 181 0 0) 181 2 0)) fun r2 h => if r2 = 0 then some (-3, h) else zbd (fX12_byteAt F 181 (stp g 181 0 0 181 2) (stp (stp h 181 5 0) 181 17 0)) fun r3 h => if wr (r3 - 48) < 1 then zbd (fX12_readFault F 181 1 h) fun r5 h => some (r5, h) else if 7 < wr (r3 - 48) then zbd (fX12_readFault F 181 1 h) fun r5 h => some (r5, h) else zbd (fX12_blank F 181 8 (wr (r3 - 48)) 0 h) fun _ h => LX12_read_75 F 181 (d : Int) (stp g 181 0 0 181 2) (wr (r3 - 48)) k320 (fun h => zbd (fX12_readFault F 181 1 h) fun r5 h => some (r5, h)) (fun h => zbd (fX12_readFault F 181 2 h) fun r5 h => some (r5, h)) (fun h => zbd (fX12_readFault F 181 1 h) fun r5 h => some (r5, h)) (fun h => zbd (fX12_readFault F 181 3 h) fun r5 h => some (r5, h)) (fun h => zbd (fX12_readFault F 181 1 h) fun r5 h => some (r5, h)) F (stp h 181 17 1)) = (if (rdo t n 5 1 [] []).1 = 0 then k320 (n : Int) h' else some (wr (-100 - (((rdo t n 5 1 [] []).2.1 : Nat) : Int)), stp h' 181 5 (((rdo t n 5 1 [] []).1 : Nat) : Int)))) ∧ ((rdo t n 5 1 [] []).1 = 0 → RepM h' 184 185 186 187 8 n (rdo t n 5 1 [] []).2.2.1 (tbT t (rdo t n 5 1 [] []).2.2.2)) ∧ h' 181 2 = 0 ∧ h' 181 5 = 0 ∧ ∀ c i, (c ≠ 181 ∨ (i ≠ 0 ∧ i ≠ 2 ∧ i ≠ 5 ∧ i ≠ 17)) → ((c ≠ 184 ∧ c ≠ 185) ∨ i < 8) → (c ≠ 186 ∨ i < 32) → (c ≠ 187 ∨ i < 1568) → h' c i = g c i := fun g k320 G2 G82 => by
        have bm := byteAt_m (F := F) (t := t) (i := 0) (h := stp (stp (stp (stp g 181 0 0) 181 2 0) 181 5 0) 181 17 0) (fun i hi => by rw [stp_ne (by omega), stp_ne (by omega), stp_ne (by omega), stp_ne (by omega)]; exact G82 i hi) hlt (by rw [stp_eq]; rfl)
        generalize hgR : stp (stp (stp (stp g 181 0 0) 181 2 0) 181 5 0) 181 17 0 = gR at bm
        have gRk : ∀ c i, (c ≠ 181 ∨ (i ≠ 0 ∧ i ≠ 2 ∧ i ≠ 5 ∧ i ≠ 17)) → gR c i = g c i := fun c i z => by rw [← hgR, stp_ne (by omega), stp_ne (by omega), stp_ne (by omega), stp_ne (by omega)]
        obtain ⟨gb, b1, b2, b3⟩ := blank_eq (F := F) (d := 8) (n := n) (v := 0) (h := gR) (by omega) (by decide) hn (okA_zero 4)
        rw [ars_zero] at b2
        have rb : RepM (stp gb 181 17 1) 184 185 186 187 8 n [] (tbT t []) := RepM_ext (fun o ho => absurd ho (by simp)) (RepM_keep (fun k => ⟨stp_ne (by omega), stp_ne (by omega), stp_ne (by omega), stp_ne (by omega)⟩) b2)
        obtain ⟨h', m1, m2, m3, m4⟩ := ops_m (F := F) (n := n) (t := t) (u1 := (d : Int)) (k320 := k320) (K1 := fun h => zbd (fX12_readFault F 181 1 h) fun r5 h => some (r5, h)) (K2 := fun h => zbd (fX12_readFault F 181 2 h) fun r5 h => some (r5, h)) (K3 := fun h => zbd (fX12_readFault F 181 3 h) fun r5 h => some (r5, h)) (by omega) hn hb hlt 5 1 F [] [] (stp gb 181 17 1) (by simp) (by simp) (by omega) (by omega) (fun i hi => by rw [stp_ne (by omega), b3 _ _ (by omega) (by omega) (by omega), gRk _ _ (by omega)]; exact G82 i hi) (by rw [stp_eq]; rfl) rfl (fun x hx => absurd hx (by simp)) rb
        have rf : ∀ kd : Int, (zbd (fX12_readFault F 181 kd h') fun r5 h => some (r5, h)) = some (wr (-100 - h' 181 17), stp h' 181 5 kd) := fun kd => by
          unfold fX12_readFault
          simp only [zpf, zgf]
          rw [zbd_some, stp_ne (show (181 : Nat) ≠ 181 ∨ (17 : Nat) ≠ 5 from Or.inr (by decide))]
        refine ⟨h', ?_, m2, ?_, ?_, fun c i c1 c2 c3 c4 => ?_⟩
        · rw [isDrawer_m, zbd_some, bl_pos q, if_neg (by decide), show stp g 181 0 0 181 2 = (t.length : Int) by rw [stp_ne (by omega)]; exact G2, hgR, bm, zbd_some, wr_id ⟨by omega, by omega⟩, if_neg (by omega), if_neg (by omega), en, show fX12_blank F 181 8 (n : Int) 0 gR = some (0, gb) from b1, zbd_some]
          refine m1.trans ?_
          by_cases z0 : (rdo t n 5 1 [] []).1 = 0
          · rw [if_pos z0, if_pos z0]
          · rw [if_neg z0, if_neg z0, ← m3 z0]
            by_cases z1 : (rdo t n 5 1 [] []).1 = 1
            · rw [if_pos z1, rf, z1]; rfl
            · rw [if_neg z1]
              by_cases z2 : (rdo t n 5 1 [] []).1 = 2
              · rw [if_pos z2, rf, z2]; rfl
              · rw [if_neg z2, rf, show (rdo t n 5 1 [] []).1 = 3 by omega]; rfl
        · rw [m4 _ _ (by omega) (by omega) (by omega) (by omega), stp_ne (by omega), b3 _ _ (by omega) (by omega) (by omega), ← hgR, stp_ne (by omega), stp_ne (by omega), stp_eq]
        · rw [m4 _ _ (by omega) (by omega) (by omega) (by omega), stp_ne (by omega), b3 _ _ (by omega) (by omega) (by omega), ← hgR, stp_ne (by omega), stp_eq]
        · rw [m4 _ _ (by omega) (by omega) (by omega) (by omega), stp_ne (by omega), b3 _ _ (by omega) (by omega) (by omega), gRk _ _ c1]
      have cpre : ∀ (r : Int) (g : HF), (if hC 86 0 = 0 then zbd (fX11_putDraft F 0 (d : Int) hC) fun _ h => some (h 6 0, h) else some (wr (-100 - hC 86 1), hC)) = some (r, g) → fX11_read F 0 (d : Int) h = some (r, g) := fun r g e => by
        unfold fX11_read fX10_readAlgebra fX10_begin fX10_readTables
        simp only [zjn_eq, zpf, zgf, zlet_eq]
        rw [isDrawer_c, zbd_some, bl_pos q, if_neg (by decide), zbd_some, hhB, show zgd hB (0 + 86) 2 = zgd hB 86 2 from rfl, zgd_at B2, by0, zbd_some, wr_id ⟨by omega, by omega⟩]
        exact redC r g e
      by_cases qR : (rdo t n 5 1 [] []).1 = 0
      · obtain ⟨o0, oR⟩ := x2 qR
        obtain ⟨w1, w2, w3⟩ := kok qR
        generalize (rdo t n 5 1 [] []).2.2.1 = lR at oR w1 w2 w3 ref
        generalize (rdo t n 5 1 [] []).2.2.2 = pR at oR w3 ref
        have hw : WF n lR (tbT t pR) := ⟨hn, w1, fun o ho => by rw [List.getD_eq_getElem?_getD, List.getElem?_eq_getElem ho]; exact w2 _ (List.getElem_mem ho), w3⟩
        have rC : RepC hC 6 n lR (tbT t pR) := RepC_keep (fun i k hi => hC0 _ _ (by omega)) oR
        have i5C : I5d hC := I5d_congr (fun c k x => by have := S5_out x; exact Ok _ _ (by omega) (by omega) (by omega)) h5
        have dC : DR hC d := DR_off (fun i k hi => Ok _ _ (by omega) (by omega) (by omega)) (Ok _ _ (by omega) (by omega) (by omega)) (Ok _ _ (by omega) (by omega) (by omega)) (fun o ho => Ok _ _ (by omega) (by omega) (by omega)) (fun k hk => Ok _ _ (by omega) (by omega) (by omega)) (hD d hd)
        obtain ⟨g, eg, rg6, rg, fg, K⟩ := put_draft (F := F) (d := d) (h := hC) (by omega) hd i5C dC hw rC
        have gh : ∀ c i, (c < 6 ∨ 9 < c ∨ (c = 8 ∧ i = 0)) → c ≠ 86 → c ≠ 1 → (c < 12 ∨ 76 < c) → (c ≠ 10 ∨ (i ≠ 2 ∧ i ≠ 3)) → (c < 117 + 4 * d ∨ 120 + 4 * d < c) → g c i = h c i := fun c i a b e f j m => by rw [fg c i f j m, Ok c i a b e]
        obtain ⟨h', r1, r2, r3, r4, r5⟩ := ref g (fun (x320_3 : Int) (h : HF) => zbd (fX12_keep F 181 (d : Int) h) fun _ h => zbd (fX12_copy F 181 8 (d : Int) h) fun _ h => some (x320_3, h)) (by rw [gh _ _ (by omega) (by omega) (by omega) (by omega) (by omega) (by omega)]; exact tm.1) (fun i hi => by rw [gh _ _ (by omega) (by omega) (by omega) (by omega) (by omega) (by omega)]; exact tm.2 i hi)
        have hg : ∀ c i, (c ≠ 181 ∨ (i ≠ 0 ∧ i ≠ 2 ∧ i ≠ 5 ∧ i ≠ 17)) → ((c ≠ 184 ∧ c ≠ 185) ∨ i < 8) → (c ≠ 186 ∨ i < 32) → (c ≠ 187 ∨ i < 1568) → h' c i = g c i := r5
        obtain ⟨h3', e3, k3', i5⟩ := K h' (fun c k x => by have := S5_out x; exact hg _ _ (by omega) (by omega) (by omega) (by omega)) (by rw [hg _ _ (by omega) (by omega) (by omega) (by omega), fg _ _ (by omega) (by omega) (by omega)]) (by rw [hg _ _ (by omega) (by omega) (by omega) (by omega), fg _ _ (by omega) (by omega) (by omega)]) (fun o ho => by rw [hg _ _ (by omega) (by omega) (by omega) (by omega), fg _ _ (by omega) (by omega) (by omega)]) (fun k hk => by rw [hg _ _ (by omega) (by omega) (by omega) (by omega), fg _ _ (by omega) (by omega) (by omega)])
        have m3 : RepM h3' 184 185 186 187 8 n lR (tbT t pR) := RepM_keep (fun k => ⟨k3' _ _ (by omega) (by omega), k3' _ _ (by omega) (by omega), k3' _ _ (by omega) (by omega), k3' _ _ (by omega) (by omega)⟩) (r2 qR)
        obtain ⟨h4, e4, m4, f4⟩ := mcopy (F := F) (s := 8) (t := d) (h := h3') (by omega) (by decide) (by omega) (by omega) w1 hn.2 hw.2.2.1 m3
        have h4g : ∀ c i, (c < 188 ∨ 192 < c) → (c ≠ 181 ∨ (i ≠ 0 ∧ i ≠ 2 ∧ i ≠ 5 ∧ i ≠ 15 ∧ i ≠ 16 ∧ i ≠ 17)) → ((c ≠ 184 ∧ c ≠ 185) ∨ (i < 8 ∧ i ≠ d)) → (c ≠ 186 ∨ (i < 32 ∧ (i < 4 * d ∨ 4 * d + 4 ≤ i))) → (c ≠ 187 ∨ (i < 1568 ∧ (i < 196 * d ∨ 196 * d + 196 ≤ i))) → h4 c i = g c i := fun c i a b e f j => by rw [f4 _ _ (by omega) (by omega) (by omega), k3' _ _ (by omega) (by omega), hg _ _ (by omega) (by omega) (by omega) (by omega)]
        refine ⟨(n : Int), g, h4, ?_, ?_, Inv_read hI0 ?_ ?_ (fun c i z => ?_) ?_ ?_ ?_ (fun d' hd' => ?_) ?_⟩
        · have := cpre (n : Int) g (by rw [if_pos (by rw [hC0 _ _ (by omega)]; exact o0), eg, zbd_some, rg6.1])
          unfold fX11_read fX10_readAlgebra fX10_begin fX10_readTables at this
          simp only [zjn_eq, zpf, zgf, zlet_eq] at this
          exact this
        · refine r1.trans ?_
          rw [if_pos qR]
          show zbd (fX12_keep F 181 (d : Int) h') _ = _
          rw [e3, zbd_some, show fX12_copy F 181 8 (d : Int) h3' = _ from e4, zbd_some]
        · rw [h4g _ _ (by omega) (by omega) (by omega) (by omega) (by omega), fg _ _ (by omega) (by omega) (by omega)]; exact hC1
        · rw [f4 _ _ (by omega) (by omega) (by omega), k3' _ _ (by omega) (by omega)]; exact r3
        · have : c = 3 ∨ c = 4 ∨ c = 183 ∨ (c = 181 ∧ i = 4) ∨ (c = 0 ∨ (77 ≤ c ∧ c ≤ 85) ∨ (149 ≤ c ∧ c ≤ 180) ∨ (194 ≤ c ∧ c ≤ 205)) := by
            rcases z with z | z | z | z | z
            · omega
            · omega
            · omega
            · omega
            · have := S6_out z; omega
          rw [h4g _ _ (by omega) (by omega) (by omega) (by omega) (by omega), gh _ _ (by omega) (by omega) (by omega) (by omega) (by omega) (by omega)]
        · rw [h4g _ _ (by omega) (by omega) (by omega) (by omega) (by omega), fg _ _ (by omega) (by omega) (by omega), hC0 _ _ (by omega), o0, f4 _ _ (by omega) (by omega) (by omega), k3' _ _ (by omega) (by omega), r4]
        · rw [h4g _ _ (by omega) (by omega) (by omega) (by omega) (by omega), fg _ _ (by omega) (by omega) (by omega), hC0 _ _ (by omega), o0]; exact ⟨by decide, by decide⟩
        · rw [h4g _ _ (by omega) (by omega) (by omega) (by omega) (by omega), gh _ _ (by omega) (by omega) (by omega) (by omega) (by omega) (by omega)]; exact h8
        · by_cases z : d' = d
          · subst z
            exact Or.inr ⟨n, lR, tbT t pR, hw, RepC_keep (fun i k hi => h4g _ _ (by omega) (by omega) (by omega) (by omega) (by omega)) rg, m4⟩
          · have ch : ∀ c i, (c < 188 ∨ 192 < c) → 117 ≤ c → c ≠ 181 → (c < 117 + 4 * d ∨ 120 + 4 * d < c) → ((c ≠ 184 ∧ c ≠ 185) ∨ (i < 8 ∧ i ≠ d)) → (c ≠ 186 ∨ (i < 32 ∧ (i < 4 * d ∨ 4 * d + 4 ≤ i))) → (c ≠ 187 ∨ (i < 1568 ∧ (i < 196 * d ∨ 196 * d + 196 ≤ i))) → h4 c i = h c i := fun c i a b e f j m o => by rw [h4g _ _ a (by omega) j m o, gh _ _ (by omega) (by omega) (by omega) (by omega) (by omega) f]
            exact DR_off (fun i k hi => ch _ _ (by omega) (by omega) (by omega) (by omega) (by omega) (by omega) (by omega)) (ch _ _ (by omega) (by omega) (by omega) (by omega) (by omega) (by omega) (by omega)) (ch _ _ (by omega) (by omega) (by omega) (by omega) (by omega) (by omega) (by omega)) (fun o ho => ch _ _ (by omega) (by omega) (by omega) (by omega) (by omega) (by omega) (by omega)) (fun k hk => ch _ _ (by omega) (by omega) (by omega) (by omega) (by omega) (by omega) (by omega)) (hD d' hd')
        · exact I5d_congr (fun c k x => by have := S5_out x; exact f4 _ _ (by omega) (by omega) (by omega)) i5
      · obtain ⟨f1, f2⟩ := x3 qR
        obtain ⟨h', r1, r2, r3, r4, r5⟩ := ref hC _ (by rw [Ok _ _ (by omega) (by omega) (by omega)]; exact tm.1) (fun i hi => by rw [Ok _ _ (by omega) (by omega) (by omega)]; exact tm.2 i hi)
        have c86 : hC 86 0 = (((rdo t n 5 1 [] []).1 : Nat) : Int) := by rw [hC0 _ _ (by omega)]; exact f1
        refine ⟨wr (-100 - (((rdo t n 5 1 [] []).2.1 : Nat) : Int)), hC, stp h' 181 5 (((rdo t n 5 1 [] []).1 : Nat) : Int), ?_, ?_, fin _ ?_ ?_ (fun c i z => ?_) ?_ ?_⟩
        · have := cpre (wr (-100 - (((rdo t n 5 1 [] []).2.1 : Nat) : Int))) hC (by rw [if_neg (by rw [c86]; omega), hC0 86 1 (by omega), f2])
          unfold fX11_read fX10_readAlgebra fX10_begin fX10_readTables at this
          simp only [zjn_eq, zpf, zgf, zlet_eq] at this
          exact this
        · refine r1.trans ?_
          rw [if_neg qR]
        · rw [stp_ne (by omega), r5 _ _ (by omega) (by omega) (by omega) (by omega)]; exact hC1
        · rw [stp_ne (by omega)]; exact r3
        · rw [stp_ne (by omega), r5 _ _ (by omega) (by omega) (by omega) (by omega), Ok _ _ (by omega) (by omega) (by omega)]
        · rw [stp_ne (by omega), r5 _ _ (by omega) (by omega) (by omega) (by omega), stp_eq, c86]
        · rw [stp_ne (by omega), r5 _ _ (by omega) (by omega) (by omega) (by omega), c86]; exact rng_small k3
    · have hbad : ∀ {X Y : RO}, (if bA t 0 - 48 < 1 then X else if 7 < bA t 0 - 48 then X else Y) = X := fun {X Y} => by
        by_cases z : bA t 0 - 48 < 1
        · rw [if_pos z]
        · rw [if_neg z, if_pos (by omega)]
      generalize hhC : stp (stp (stp hB 86 0 1) 86 1 0) 1 1 0 = hC
      have C0 : hC 86 0 = 1 := by rw [← hhC, stp_ne (by omega), stp_ne (by omega), stp_eq]
      have C1 : hC 86 1 = 0 := by rw [← hhC, stp_ne (by omega), stp_eq]
      have Ck : ∀ c i, c ≠ 86 → c ≠ 1 → hC c i = h c i := fun c i z w => by rw [← hhC, stp_ne (by omega), stp_ne (by omega), stp_ne (by omega), Bk c i z]
      have C2 : hC 181 2 = (t.length : Int) := by rw [Ck _ _ (by omega) (by omega)]; exact tm.1
      have hg17 : stp (stp (stp (stp hC 181 0 0) 181 2 0) 181 5 0) 181 17 0 181 17 = ((0 : Nat) : Int) := by rw [stp_eq]; rfl
      have bm := byteAt_m (F := F) (t := t) (i := 0) (h := stp (stp (stp (stp hC 181 0 0) 181 2 0) 181 5 0) 181 17 0) (fun i hi => by rw [stp_ne (by omega), stp_ne (by omega), stp_ne (by omega), stp_ne (by omega), Ck _ _ (by omega) (by omega)]; exact tm.2 i hi) hlt hg17
      generalize hgR : stp (stp (stp (stp hC 181 0 0) 181 2 0) 181 5 0) 181 17 0 = gR at bm hg17
      have gRk : ∀ c i, (c ≠ 181 ∨ (i ≠ 0 ∧ i ≠ 2 ∧ i ≠ 5 ∧ i ≠ 17)) → gR c i = hC c i := fun c i z => by rw [← hgR, stp_ne (by omega), stp_ne (by omega), stp_ne (by omega), stp_ne (by omega)]
      refine ⟨wr (-100 - 0), hC, stp gR 181 5 1, ?_, ?_, fin _ ?_ ?_ (fun c i z => ?_) ?_ ?_⟩
      · rw [isDrawer_c, zbd_some, bl_pos q, if_neg (by decide), zbd_some, hhB, show zgd hB (0 + 86) 2 = zgd hB 86 2 from rfl, zgd_at B2, by0, zbd_some, wr_id ⟨by omega, by omega⟩, hbad, show fX10_failAt F (0 + 86) 0 1 hB = some (0, stp (stp hB 86 0 1) 86 1 0) from rfl, zbd_some, zbd_some, show stp (stp (stp hB 86 0 1) 86 1 0) (0 + 1) 1 0 = hC from hhC, zbd_some, show hC (0 + 86) 0 = 1 from C0, if_neg (by decide), show hC (0 + 86) 1 = 0 from C1]
      · rw [isDrawer_m, zbd_some, bl_pos q, if_neg (by decide), show stp hC 181 0 0 181 2 = (t.length : Int) by rw [stp_ne (by omega)]; exact C2, hgR, bm, zbd_some, wr_id ⟨by omega, by omega⟩, hbad]
        unfold fX12_readFault
        simp only [zpf, zgf]
        rw [zbd_some, stp_ne (show (181 : Nat) ≠ 181 ∨ (17 : Nat) ≠ 5 from Or.inr (by decide)), hg17]
        rfl
      · rw [stp_ne (by omega), gRk _ _ (by omega), ← hhC, stp_eq]
      · rw [stp_ne (by omega), ← hgR, stp_ne (by omega), stp_ne (by omega), stp_eq]
      · rw [stp_ne (by omega), gRk _ _ (by omega), Ck _ _ (by omega) (by omega)]
      · rw [stp_ne (by omega), gRk _ _ (by omega), C0, stp_eq]
      · rw [stp_ne (by omega), gRk _ _ (by omega), C0]; exact ⟨by decide, by decide⟩
  · rw [isDrawer_c, zbd_some, bl_neg q, if_pos rfl, zbd_some]
    refine ⟨-3, stp h 1 1 0, stp (stp (stp h 1 1 0) 181 0 0) 181 2 0, rfl, ?_, fin _ ?_ ?_ (fun c i z => by rw [stp_ne (by omega), stp_ne (by omega), stp_ne (by omega)]) ?_ ?_⟩
    · rw [isDrawer_m, zbd_some, bl_neg q, if_pos rfl]
    · rw [stp_ne (by omega), stp_ne (by omega), stp_eq]
    · rw [stp_eq]
    · rw [stp_ne (by omega), stp_ne (by omega), stp_ne (by omega), stp_ne (by omega), stp_ne (by omega), stp_ne (by omega)]; exact h3.1
    · rw [stp_ne (by omega), stp_ne (by omega), stp_ne (by omega)]; exact h3.2
