/-! link: the reference's loop, the call -/
section LR
variable {F d n : Nat} {ar : List Nat} {tb : Nat → Nat → Int}
theorem link_L (hF : 9 ≤ F) (hd : d < 10) (hw : WF n ar tb) {a b : Nat} (ha : a < n) (hb : b < n) {k : Int → HF → RO} : ∀ (m : Nat) (l : List Nat) (N num most : Nat) (best : Int) (h : HF), sqE (nxM n) m l = true → m + 1 ≤ N → num + m ≤ 6000 → LN h 207 l → l.length = n → BD l → RepM h 184 185 186 187 d n ar tb → ∃ h', LX12_link_65 F 181 (d : Int) (a : Int) (b : Int) (n : Int) k N (num : Int) best (most : Int) 1 h = k (bstF (fun l => decide (l.getD a 0 = l.getD b 0)) (fun l => bc (lds n l) n) ((sq (nxM n) m l).filter (fun l => lnB n l && agB tb n ar l)) num best most) h' ∧ ∀ c' i', c' ≠ 207 → h' c' i' = h c' i' := by
  have hn := hw.1
  intro m
  induction m with
  | zero =>
    intro l N num most best h hE
    exact absurd hE (by simp [sqE])
  | succ m ih =>
    intro l N num most best h hE hN hnm hL hl hB hr
    obtain ⟨N, rfl⟩ : ∃ M, N = M + 1 := ⟨N - 1, by omega⟩
    obtain ⟨h3, e3, n3, f3⟩ := nextLine_eq (F := F) (h := h) (l := l) hF (by omega) hL hB
    rw [hl] at e3 n3
    have tail : ∀ (num2 most2 : Nat) (best2 : Int), num2 ≤ num + 1 → ∃ h', (zbd (fX12_nextLine F 181 (n : Int) h) fun r7 h => LX12_link_65 F 181 (d : Int) (a : Int) (b : Int) (n : Int) k N (num2 : Int) best2 (most2 : Int) r7 h) = k (bstF (fun l => decide (l.getD a 0 = l.getD b 0)) (fun l => bc (lds n l) n) ((match nxM n l with | none => [] | some l' => sq (nxM n) m l').filter (fun l => lnB n l && agB tb n ar l)) num2 best2 most2) h' ∧ ∀ c' i', c' ≠ 207 → h' c' i' = h c' i' := by
      intro num2 most2 best2 h2
      rw [e3, zbd_some]
      cases q : nxM n l with
      | none =>
        obtain ⟨N, rfl⟩ : ∃ M, N = M + 1 := ⟨N - 1, by omega⟩
        refine ⟨h3, ?_, f3⟩
        show LX12_link_65 F 181 (d : Int) (a : Int) (b : Int) (n : Int) k (N + 1) (num2 : Int) best2 (most2 : Int) 0 h3 = _
        rw [LX12_link_65, if_pos rfl]
        rfl
      | some l' =>
        obtain ⟨a1, a2⟩ := nxM_len n l l' (by omega) hB q
        have hE' : sqE (nxM n) m l' = true := by
          simp only [sqE] at hE
          rw [q] at hE
          exact hE
        obtain ⟨h', x1, x2⟩ := ih l' N num2 most2 best2 h3 hE' (by omega) (by omega) (n3 l' q) (by omega) a2 (RepM_keep (fun k => ⟨f3 _ _ (by decide), f3 _ _ (by decide), f3 _ _ (by decide), f3 _ _ (by decide)⟩) hr)
        exact ⟨h', x1, fun c' i' hc => by rw [x2 c' i' hc, f3 c' i' hc]⟩
    have es : sq (nxM n) (m + 1) l = l :: (match nxM n l with | none => [] | some l' => sq (nxM n) m l') := rfl
    rw [es, List.filter_cons, LX12_link_65, if_neg (show ¬ (1 : Int) = 0 by decide), isLine_eq hF hL hl hn.2 hB, zbd_some]
    simp only [zjn_eq, zlet_eq]
    cases q1 : lnB n l with
    | false =>
      rw [bi_f, if_pos (show (0 : Int) = 0 from rfl)]
      exact tail num most best (by omega)
    | true =>
      rw [bi_t, if_neg (show ¬ (1 : Int) = 0 by decide), agrees_eq hF hd hw hr hL hl hB, zbd_some]
      cases q2 : agB tb n ar l with
      | false =>
        rw [bi_f, if_pos (show (0 : Int) = 0 from rfl)]
        exact tail num most best (by omega)
      | true =>
        rw [bi_t, if_neg (show ¬ (1 : Int) = 0 by decide), rdm26 (by omega), hL a (by omega), rdm26 (by omega), hL b (by omega), wr_s (by omega)]
        have red : bstF (fun l => decide (l.getD a 0 = l.getD b 0)) (fun l => bc (lds n l) n) (if (true && true) = true then l :: (match nxM n l with | none => [] | some l' => sq (nxM n) m l').filter (fun l => lnB n l && agB tb n ar l) else (match nxM n l with | none => [] | some l' => sq (nxM n) m l').filter (fun l => lnB n l && agB tb n ar l)) num best most = if decide (l.getD a 0 = l.getD b 0) = true ∧ most < bc (lds n l) n then bstF (fun l => decide (l.getD a 0 = l.getD b 0)) (fun l => bc (lds n l) n) ((match nxM n l with | none => [] | some l' => sq (nxM n) m l').filter (fun l => lnB n l && agB tb n ar l)) (num + 1) (num : Int) (bc (lds n l) n) else bstF (fun l => decide (l.getD a 0 = l.getD b 0)) (fun l => bc (lds n l) n) ((match nxM n l with | none => [] | some l' => sq (nxM n) m l').filter (fun l => lnB n l && agB tb n ar l)) (num + 1) best most := rfl
        rw [red]
        by_cases q3 : l.getD a 0 = l.getD b 0
        · have ce := classes_eq (F := F) hF hn.2 hl hL
          rw [if_pos (show ((l.getD a 0 : Nat) : Int) = ((l.getD b 0 : Nat) : Int) by rw [q3]), ce, zbd_some]
          by_cases q4 : most < bc (lds n l) n
          · rw [if_pos (show (most : Int) < ((bc (lds n l) n : Nat) : Int) by omega), if_pos ⟨by rw [q3]; simp, q4⟩, ce, zbd_some]
            exact tail (num + 1) (bc (lds n l) n) (num : Int) (by omega)
          · rw [if_neg (show ¬ (most : Int) < ((bc (lds n l) n : Nat) : Int) by omega), if_neg (fun z => q4 z.2)]
            exact tail (num + 1) most best (by omega)
        · rw [if_neg (show ¬ ((l.getD a 0 : Nat) : Int) = ((l.getD b 0 : Nat) : Int) by omega), if_neg (fun z => q3 (by simpa using z.1))]
          exact tail (num + 1) most best (by omega)
end LR
theorem ps_link {I6 : HF → Prop} {F : Nat} (hF : 6000 ≤ F) : PS_link F (InvP I4d I5d I6) := by
  intro h a1 a2 a3 hI _ _ _
  have hI' := Inv_thrown hI
  have hD : ∀ d, d < 8 → DR h d := fun d hd => I4d_get hI.2.2.2.1 hd
  unfold fX11_link fX12_link
  simp only [zjn, zpf]
  by_cases q : rfs h a1 = 0
  · obtain ⟨d, n, ar, tb, rfl, hd, hw, hc, hm⟩ := held hD q
    have hm' := RepM_thrown hm
    have hn := hw.1
    by_cases q2 : 0 ≤ a2 ∧ a2 < (n : Int)
    · by_cases q3 : 0 ≤ a3 ∧ a3 < (n : Int)
      · obtain ⟨a, rfl⟩ : ∃ t : Nat, a2 = (t : Int) := ⟨a2.toNat, by omega⟩
        obtain ⟨b, rfl⟩ : ∃ t : Nat, a3 = (t : Int) := ⟨a3.toNat, by omega⟩
        obtain ⟨g, g1, g2, g3, g4, g5⟩ := gather_eq (F := F) (A := 117 + 4 * d) (h := h) (by omega) (by omega) (kt_drw d hd) hw hc
        have cg : RepC g (117 + 4 * d) n ar tb := RepC_keep (fun i k hi => g5 _ _ (by omega) (by omega) (by omega)) hc
        obtain ⟨hJ, y, j0, y1, y2, y3, y4, y5, y6, y7⟩ := joining_eq (F := F) (A := 117 + 4 * d) (h := g) (by omega) (by omega) (kt_drw d hd) hw cg g2 g3 g4 (show a < n by omega) (show b < n by omega)
        have tg : ∀ c k, (c ≠ 181 ∨ k ≠ 0) → stp hJ 181 0 0 c k = hJ c k := fun c k x => stp_ne x
        have Jh : ∀ c k, (c < 94 ∨ 96 < c) → hJ c k = h c k := fun c k z => by rw [y7 _ _ (by omega), g5 _ _ (by omega) (by omega) (by omega)]
        have mg : RepM (stp hJ 181 0 0) 184 185 186 187 d n ar tb := RepM_row hd hw (fun c q hq => by rw [tg _ _ (by omega), Jh _ _ (by omega)]) hm
        have rg : rfs (stp hJ 181 0 0) (d : Int) = 0 := (rfs_eq (fun d' hd' => by rw [tg _ _ (by omega), Jh _ _ (by omega)])).trans q
        generalize hk : fil (stp hJ 181 0 0) 207 0 7 0 = g0
        have gf : ∀ c' i', c' ≠ 207 → g0 c' i' = stp hJ 181 0 0 c' i' := fun c' i' h1 => by rw [← hk, fil_off (by omega)]
        have gL : LN g0 207 (List.replicate n 0) := fun i hi => by
          rw [List.length_replicate] at hi
          rw [zer_get, ← hk, fil_in (by omega)]; rfl
        obtain ⟨h4, x1, x2⟩ := link_L (F := F) (d := d) (by omega) (by omega) hw (show a < n by omega) (show b < n by omega) (k := fun x h => some (x, h)) 5040 (List.replicate n 0) F 0 0 (-1) g0 (sq_endM n (by omega) hn.1) (by omega) (by omega) gL List.length_replicate (zer_BD n) (RepM_row hd hw (fun c q hq => gf _ _ (by omega)) mg)
        rw [cgL_M hn] at x1
        have hy := cgL_ok hn y (List.mem_of_getElem? y2)
        have best : bstF (fun l => decide (l.getD a 0 = l.getD b 0)) (fun l => bc (lds n l) n) (cgL tb n ar) 0 (-1) 0 = ((0 + j0 : Nat) : Int) := by
          refine bst_first (y := y) (by rw [y5]; simp) (cgL tb n ar) j0 0 (-1) 0 y2 (fun j' z hj' hz hP => ?_) (fun z hz hP => ?_) (by have := lds_pos y4 hn.1; omega)
          · obtain ⟨z1, z2, z3, z4⟩ := cgL_ok hn z (List.mem_of_getElem? hz)
            have cr := crs_eq y4 ⟨z1, z2, z3⟩ (y6 z ⟨z1, z2, z3⟩ (agB_iff.mp z4) (by simpa using hP))
            refine Nat.lt_of_le_of_ne cr.1 (fun e => y3 j' hj' (by rw [hz, cr.2 e]))
          · obtain ⟨z1, z2, z3, z4⟩ := cgL_ok hn z hz
            exact (crs_eq y4 ⟨z1, z2, z3⟩ (y6 z ⟨z1, z2, z3⟩ (agB_iff.mp z4) (by simpa using hP))).1
        rw [best, Nat.zero_add] at x1
        refine ⟨(j0 : Int), hJ, h4, ?_, ?_, Inv_while hI (fun c k z => by rw [x2 _ _ (by omega), gf _ _ (by omega), tg _ _ (by omega), Jh _ _ (by omega)])⟩
        · rw [refuse_c hD, zbd_some, if_pos q, drw_at hd, hasElement_eq hc.1, zbd_some, bl_pos q2, if_neg (by decide), hasElement_eq hc.1, zbd_some, bl_pos q3, if_neg (by decide), show fX2_gather F (0 + 94) (117 + 4 * d) h = _ from g1, zbd_some, show fX2_joining F (0 + 94) (a : Int) (b : Int) g = _ from y1, zbd_some]
        · rw [refuse_m, zbd_some, rg, if_pos rfl, misElement_eq (by omega) mg.1, zbd_some, bl_pos q2, if_neg (by decide), misElement_eq (by omega) mg.1, zbd_some, bl_pos q3, if_neg (by decide), msz (by omega) mg, firstLine_eq (by omega), zbd_some, hk]
          exact x1
      · refine ⟨-3, h, stp h 181 0 0, ?_, ?_, hI'⟩
        · rw [refuse_c hD, zbd_some, if_pos q, drw_at hd, hasElement_eq hc.1, zbd_some, bl_pos q2, if_neg (by decide), hasElement_eq hc.1, zbd_some, bl_neg q3, if_pos rfl]
        · rw [refuse_m, zbd_some, rfs_thrown, if_pos q, misElement_eq (by omega) hm'.1, zbd_some, bl_pos q2, if_neg (by decide), misElement_eq (by omega) hm'.1, zbd_some, bl_neg q3, if_pos rfl]
    · refine ⟨-3, h, stp h 181 0 0, ?_, ?_, hI'⟩
      · rw [refuse_c hD, zbd_some, if_pos q, drw_at hd, hasElement_eq hc.1, zbd_some, bl_neg q2, if_pos rfl]
      · rw [refuse_m, zbd_some, rfs_thrown, if_pos q, misElement_eq (by omega) hm'.1, zbd_some, bl_neg q2, if_pos rfl]
  · refine ⟨rfs h a1, h, stp h 181 0 0, ?_, ?_, hI'⟩
    · rw [refuse_c hD, zbd_some, if_neg q]
    · rw [refuse_m, zbd_some, rfs_thrown, if_neg q]
