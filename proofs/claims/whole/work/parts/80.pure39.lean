/-! two drawers; product -/
theorem cod_inj {l l' : List Nat} (hl : l.length ≤ 4) (hl' : l'.length ≤ 4) (h : ∀ x ∈ l, x ≤ 2) (h' : ∀ x ∈ l', x ≤ 2) (e : cod l = cod l') : l = l' := by
  have e1 := (ars_cod l 4 hl h).2
  have e2 := (ars_cod l' 4 hl' h').2
  rw [← e1, e, e2]
theorem RepM_row {h h' : HF} {d n : Nat} {ar : List Nat} {tb : Nat → Nat → Int} (hd : d < 8) (hw : WF n ar tb) (e : ∀ c q, (((c = 184 ∨ c = 185) ∧ q = d) ∨ (c = 186 ∧ q < 32) ∨ (c = 187 ∧ q < 1568)) → h' c q = h c q) (hr : RepM h 184 185 186 187 d n ar tb) : RepM h' 184 185 186 187 d n ar tb := by
  obtain ⟨b1, b2, b3, b4⟩ := hr
  have hl := hw.2.1
  refine ⟨by rw [e _ _ (by omega)]; exact b1, by rw [e _ _ (by omega)]; exact b2, fun o ho => by rw [e _ _ (by omega)]; exact b3 o ho, fun o ho k' hk' => ?_⟩
  have := pw_le hw.1.2 (hw.2.2.1 o ho)
  rw [e _ _ (by omega)]; exact b4 o ho k' hk'
theorem oneSig_L {F d e n n' : Nat} {ar ar' : List Nat} {tb tb' : Nat → Nat → Int} {h : HF} {k : Int → HF → RO} (hd : d < 10) (he : e < 10) (hw : WF n ar tb) (hw' : WF n' ar' tb') (hr : RepM h 184 185 186 187 d n ar tb) (hr' : RepM h 184 185 186 187 e n' ar' tb') (hl : ar.length = ar'.length) : ∀ (m o N : Nat) (w : Bool), o + m = 4 → m + 1 ≤ N → LX12_isOneSignature_24 F 181 (d : Int) (e : Int) k N (bi w) (o : Int) h = k (bi (w && alB (fun o => decide (ar.length ≤ o) || decide (ar.getD o 0 = ar'.getD o 0)) o m)) h := by
  intro m
  induction m with
  | zero =>
    intro o N w ho hN
    obtain ⟨N, rfl⟩ : ∃ M, N = M + 1 := ⟨N - 1, by omega⟩
    rw [LX12_isOneSignature_24, if_neg (by omega)]
    simp [alB]
  | succ m ih =>
    intro o N w ho hN
    obtain ⟨N, rfl⟩ : ∃ M, N = M + 1 := ⟨N - 1, by omega⟩
    rw [LX12_isOneSignature_24, if_pos (by omega)]
    cases w with
    | false =>
      rw [bi_f, if_pos rfl]
      rfl
    | true =>
      have i1 := ih (o + 1) N true (by omega) (by omega)
      have i0 := ih (o + 1) N false (by omega) (by omega)
      rw [bi_t] at i1
      rw [bi_f] at i0
      rw [bi_t, if_neg (by decide), mops hd hr]
      simp only [zjn_eq, zlet_eq]
      rw [wr_s (by omega), alB_s]
      by_cases q : o < ar.length
      · rw [if_pos (by omega), marityG hd hw.2.1 hr q, zbd_some, marityG he hw'.2.1 hr' (by omega), zbd_some, i1, i0, decide_eq_false (show ¬ ar.length ≤ o by omega)]
        by_cases q2 : ar.getD o 0 = ar'.getD o 0
        · rw [if_pos (by rw [q2]), decide_eq_true q2]; rfl
        · rw [if_neg (by omega), decide_eq_false q2]; rfl
      · rw [if_neg (by omega), i1, decide_eq_true (show ar.length ≤ o by omega)]; rfl
theorem oneSig_eq {F d e n n' : Nat} {ar ar' : List Nat} {tb tb' : Nat → Nat → Int} {h : HF} (hF : 8 ≤ F) (hd : d < 10) (he : e < 10) (hw : WF n ar tb) (hw' : WF n' ar' tb') (hr : RepM h 184 185 186 187 d n ar tb) (hr' : RepM h 184 185 186 187 e n' ar' tb') : fX12_isOneSignature F 181 (d : Int) (e : Int) h = some (if ar = ar' then 1 else 0, h) := by
  have l1 := hw.2.1
  have l2 := hw'.2.1
  unfold fX12_isOneSignature
  rw [mops hd hr, mops he hr']
  simp only [zjn_eq]
  by_cases q : ar.length = ar'.length
  · rw [if_pos (by omega)]
    refine (oneSig_L (F := F) (k := fun x h => zrz x h) hd he hw hw' hr hr' q 4 0 F true (by omega) (by omega)).trans ?_
    show zrz (bi (true && _)) h = _
    rw [Bool.true_and]
    by_cases qe : ar = ar'
    · have : alB (fun o => decide (ar.length ≤ o) || decide (ar.getD o 0 = ar'.getD o 0)) 0 4 = true := alB_iff.mpr (fun j _ _ => by rw [qe]; simp)
      rw [this, if_pos qe]; rfl
    · have : alB (fun o => decide (ar.length ≤ o) || decide (ar.getD o 0 = ar'.getD o 0)) 0 4 = false := by
        cases z : alB (fun o => decide (ar.length ≤ o) || decide (ar.getD o 0 = ar'.getD o 0)) 0 4
        · rfl
        · refine absurd (List.ext_getElem q (fun i h1 h2 => ?_)) qe
          have := alB_iff.mp z i (Nat.zero_le _) (by omega)
          rw [decide_eq_false (show ¬ ar.length ≤ i by omega), Bool.false_or, decide_eq_true_eq, List.getD_eq_getElem?_getD, List.getD_eq_getElem?_getD, List.getElem?_eq_getElem h1, List.getElem?_eq_getElem h2] at this
          exact this
      rw [this, if_neg qe]; rfl
  · obtain ⟨N, rfl⟩ : ∃ M, F = M + 1 := ⟨F - 1, by omega⟩
    rw [if_neg (by omega), if_neg (fun z => q (by rw [z])), LX12_isOneSignature_24, if_pos (by decide), if_pos rfl]
    rfl
/-- the class's test of two drawers -/
theorem pair {F : Nat} {x y : Int} {h : HF} (hD : ∀ d, d < 8 → DR h d) : ((¬ ((0 ≤ x ∧ x < 8) ∧ (0 ≤ y ∧ y < 8))) ∧ fX11_refusePair F 0 x y h = some (-3, h)) ∨ (∃ d e : Nat, x = (d : Int) ∧ y = (e : Int) ∧ d < 8 ∧ e < 8 ∧ (h 184 d = 0 ∨ h 184 e = 0) ∧ fX11_refusePair F 0 x y h = some (-2, h)) ∨ ∃ (d e n n' : Nat) (ar ar' : List Nat) (tb tb' : Nat → Nat → Int), x = (d : Int) ∧ y = (e : Int) ∧ d < 8 ∧ e < 8 ∧ WF n ar tb ∧ RepC h (117 + 4 * d) n ar tb ∧ RepM h 184 185 186 187 d n ar tb ∧ WF n' ar' tb' ∧ RepC h (117 + 4 * e) n' ar' tb' ∧ RepM h 184 185 186 187 e n' ar' tb' ∧ fX11_refusePair F 0 x y h = some (if ar = ar' then 0 else -4, h) := by
  have held1 : ∀ d, d < 8 → fX0_isHeld F (117 + 4 * d) h = some (if h 184 d = 0 then 0 else 1, h) := fun d hd => by
    obtain ⟨e1, e2⟩ := DR_size (hD d hd)
    unfold fX0_isHeld
    simp only [zgf, zjn, e1]
    by_cases q : h 184 d = 0
    · rw [if_neg (by omega), if_pos q]; rfl
    · rw [if_pos (by omega), if_neg q]; rfl
  unfold fX11_refusePair
  simp only [zjn, zgf]
  by_cases qx : 0 ≤ x ∧ x < 8
  · by_cases qy : 0 ≤ y ∧ y < 8
    · obtain ⟨d, rfl⟩ : ∃ t : Nat, x = (t : Int) := ⟨x.toNat, by omega⟩
      obtain ⟨e, rfl⟩ : ∃ t : Nat, y = (t : Int) := ⟨y.toNat, by omega⟩
      have hd : d < 8 := by omega
      have he : e < 8 := by omega
      by_cases zd : h 184 d = 0
      · refine Or.inr (Or.inl ⟨d, e, rfl, rfl, hd, he, Or.inl zd, ?_⟩)
        rw [isDrawer_c, zbd_some, bl_pos qx, if_neg (show ¬ (1 : Int) = 0 by decide), isDrawer_c, zbd_some, bl_pos qy, if_neg (show ¬ (1 : Int) = 0 by decide), drw_at hd, held1 d hd, zbd_some, if_pos zd, if_pos rfl]
      · by_cases ze : h 184 e = 0
        · refine Or.inr (Or.inl ⟨d, e, rfl, rfl, hd, he, Or.inr ze, ?_⟩)
          rw [isDrawer_c, zbd_some, bl_pos qx, if_neg (show ¬ (1 : Int) = 0 by decide), isDrawer_c, zbd_some, bl_pos qy, if_neg (show ¬ (1 : Int) = 0 by decide), drw_at hd, held1 d hd, zbd_some, if_neg zd, if_neg (show ¬ (1 : Int) = 0 by decide), drw_at he, held1 e he, zbd_some, if_pos ze, if_pos rfl]
        · rcases hD d hd with z | ⟨n, ar, tb, hw, hc, hm⟩
          · exact absurd z.2.2.2.2 zd
          · rcases hD e he with z | ⟨n', ar', tb', hw', hc', hm'⟩
            · exact absurd z.2.2.2.2 ze
            · refine Or.inr (Or.inr ⟨d, e, n, n', ar, ar', tb, tb', rfl, rfl, hd, he, hw, hc, hm, hw', hc', hm', ?_⟩)
              rw [isDrawer_c, zbd_some, bl_pos qx, if_neg (show ¬ (1 : Int) = 0 by decide), isDrawer_c, zbd_some, bl_pos qy, if_neg (show ¬ (1 : Int) = 0 by decide), drw_at hd, held1 d hd, zbd_some, if_neg zd, if_neg (show ¬ (1 : Int) = 0 by decide), drw_at he, held1 e he, zbd_some, if_neg ze, if_neg (show ¬ (1 : Int) = 0 by decide), drw_at hd, drw_at he, hc.2.2.1, hc'.2.2.1]
              by_cases qa : ar = ar'
              · rw [if_pos (by rw [qa]), if_pos qa]
              · have : cod ar ≠ cod ar' := fun z => qa (cod_inj hw.2.1 hw'.2.1 (ar_mem hw) (ar_mem hw') z)
                rw [if_neg (by omega), if_neg qa]
    · refine Or.inl ⟨fun z => qy z.2, ?_⟩
      rw [isDrawer_c, zbd_some, bl_pos qx, if_neg (show ¬ (1 : Int) = 0 by decide), isDrawer_c, zbd_some, bl_neg qy, if_pos rfl]
  · refine Or.inl ⟨fun z => qx z.1, ?_⟩
    rw [isDrawer_c, zbd_some, bl_neg qx, if_pos rfl]
def pdF (tb tb' : Nat → Nat → Int) (n n2 : Nat) (ar : List Nat) (o a b : Nat) : Nat := vl tb n ar o (a / n2) (b / n2) * n2 + vl tb' n2 ar o (a % n2) (b % n2)
theorem pd_dv {n n2 r a : Nat} (hn : 1 ≤ n) (h2 : 1 ≤ n2) (ha : a < rwN (n * n2) r ∨ a < clN (n * n2) r) : a / n2 < n ∧ a % n2 < n2 := by
  have h1 : 1 * 1 ≤ n * n2 := Nat.mul_le_mul hn h2
  have h3 := rw_le (n := n * n2) (r := r) (by omega)
  have ha' : a < n * n2 := by rcases ha with z | z <;> omega
  refine ⟨Nat.div_lt_of_lt_mul (by rw [Nat.mul_comm]; exact ha'), Nat.mod_lt _ (by omega)⟩
theorem pd_lt {n n2 : Nat} {ar : List Nat} {tb tb' : Nat → Nat → Int} (hw : WF n ar tb) (hw' : WF n2 ar tb') {o a b : Nat} (ho : o < ar.length) (ha : a < rwN (n * n2) (ar.getD o 0)) (hb : b < clN (n * n2) (ar.getD o 0)) : pdF tb tb' n n2 ar o a b < n * n2 := by
  obtain ⟨a1, a2⟩ := pd_dv hw.1.1 hw'.1.1 (Or.inl ha)
  obtain ⟨b1, b2⟩ := pd_dv hw.1.1 hw'.1.1 (Or.inr hb)
  have v1 := (vl_eq hw ho a1 b1).2
  have v2 := (vl_eq hw' ho a2 b2).2
  unfold pdF
  generalize vl tb n ar o (a / n2) (b / n2) = x at v1
  generalize vl tb' n2 ar o (a % n2) (b % n2) = y at v2
  have : (x + 1) * n2 ≤ n * n2 := Nat.mul_le_mul_right _ (by omega)
  rw [Nat.add_mul] at this
  omega
section PD
variable {F S1 S2 d e n n2 : Nat} {ar : List Nat} {tb tb' : Nat → Nat → Int}
theorem cpd3 (hS1 : 9 < S1) (hS2 : 9 < S2) (hk1 : kt S1 = 0 + 3) (hk2 : kt S2 = 0 + 3) (hw : WF n ar tb) (hw' : WF n2 ar tb') (hn' : n * n2 ≤ 7) {o a : Nat} (hol : o < ar.length) (ha : a < rwN (n * n2) (ar.getD o 0)) {k : Int → HF → RO} : ∀ (m b N : Nat) (h : HF) (T : Nat → Nat → Int), b + m = clN (n * n2) (ar.getD o 0) → m + 1 ≤ N → RepC h S1 n ar tb → RepC h S2 n2 ar tb' → RepC h 6 (n * n2) ar T → Dn ar.length (fun o => rwN (n * n2) (ar.getD o 0)) (fun o => clN (n * n2) (ar.getD o 0)) (fun _ _ _ => true) (fun o a b => ix (n * n2) (ar.getD o 0) a b) (fun o a b => ((pdF tb tb' n n2 ar o a b : Nat) : Int)) T o a b → ∃ h' T', LX0_becomeProduct_54 F 6 S1 S2 (n2 : Int) (o : Int) (a : Int) k N (b : Int) h = k (a : Int) h' ∧ RepC h' 6 (n * n2) ar T' ∧ Dn ar.length (fun o => rwN (n * n2) (ar.getD o 0)) (fun o => clN (n * n2) (ar.getD o 0)) (fun _ _ _ => true) (fun o a b => ix (n * n2) (ar.getD o 0) a b) (fun o a b => ((pdF tb tb' n n2 ar o a b : Nat) : Int)) T' o a (clN (n * n2) (ar.getD o 0)) ∧ ∀ c i, c ≠ 9 → h' c i = h c i := by
  have hl := hw.2.1
  have h2 := hw.2.2.1 o hol
  have h11 : 1 * 1 ≤ n * n2 := Nat.mul_le_mul hw.1.1 hw'.1.1
  have hle := rw_le (n := n * n2) (r := ar.getD o 0) (by omega)
  obtain ⟨-, k1, -, k2, -, k3⟩ := zl_0 6 (by decide)
  intro m
  induction m with
  | zero =>
    intro b N h T hb hN hc1 hc2 hr hD
    obtain ⟨N, rfl⟩ : ∃ M, N = M + 1 := ⟨N - 1, by omega⟩
    rw [LX0_becomeProduct_54, cols_eq (by decide) (by omega) hr.1 (hr.2.2.2.1 o hol), zbd_some, if_neg (by omega)]
    exact ⟨h, T, rfl, hr, by rw [← show b = clN (n * n2) (ar.getD o 0) by omega]; exact hD, fun _ _ _ => rfl⟩
  | succ m ih =>
    intro b N h T hb hN hc1 hc2 hr hD
    obtain ⟨N, rfl⟩ : ∃ M, N = M + 1 := ⟨N - 1, by omega⟩
    have hbc : b < clN (n * n2) (ar.getD o 0) := by omega
    have hp := ix_pw h2 (by omega) ha hbc
    have hs := sto_le hn' hw.2.2.1 o (by omega)
    have hp2 := pw_le hn' h2
    obtain ⟨a1, a2⟩ := pd_dv hw.1.1 hw'.1.1 (Or.inl ha)
    obtain ⟨b1, b2⟩ := pd_dv hw.1.1 hw'.1.1 (Or.inr hbc)
    have hlt := pd_lt hw hw' hol ha hbc
    have hr' := RepC_put (v := ((pdF tb tb' n n2 ar o a b : Nat) : Int)) hp hr
    have hD' := Dn_put (o := o) (a := a) (b := b) (fun a' b' ha' hb' _ e => by obtain ⟨rfl, rfl⟩ := ix_inj h2 ha' hb' ha hbc e; rfl) hD
    obtain ⟨h', T', x1, x2, x3, x4⟩ := ih (b + 1) N _ _ (by omega) (by omega) (RepC_keep (fun i k hi => stp_ne (by omega)) hc1) (RepC_keep (fun i k hi => stp_ne (by omega)) hc2) hr' hD'
    refine ⟨h', T', ?_, x2, x3, fun c i hc => by rw [x4 c i hc, stp_ne (Or.inl hc)]⟩
    have hz : ((n2 : Nat) : Int) ≠ 0 := by have := hw'.1.1; omega
    have c1 := cval (F := F) hk1 hw hc1 hol a1 b1
    have c2 := cval (F := F) hk2 hw' hc2 hol a2 b2
    have v1 := (vl_eq hw hol a1 b1).2
    have v2 := (vl_eq hw' hol a2 b2).2
    have e3 : ((vl tb n ar o (a / n2) (b / n2) : Nat) : Int) * (n2 : Int) = ((vl tb n ar o (a / n2) (b / n2) * n2 : Nat) : Int) := by rw [Int.natCast_mul]
    have hlt' : vl tb n ar o (a / n2) (b / n2) * n2 + vl tb' n2 ar o (a % n2) (b % n2) < n * n2 := hlt
    rw [LX0_becomeProduct_54, cols_eq (by decide) (by omega) hr.1 (hr.2.2.2.1 o hol), zbd_some, if_pos (by omega), zdv_ok hz, zdv_ok hz, wdiv_N (by omega), wdiv_N (by omega), c1, zbd_some, zdv_ok hz, zdv_ok hz, wrem_N (by omega), wrem_N (by omega), c2, zbd_some, spotG (by decide) ⟨by omega, hn'⟩ hl hw.2.2.1 hr hol ha hbc, zbd_some, e3, wr_id (x := ((vl tb n ar o (a / n2) (b / n2) * n2 : Nat) : Int)) ⟨by omega, by omega⟩, wr_id ⟨by omega, by omega⟩, zwr_ok (a := 6 + 3) ⟨by omega, by rw [k3]; omega⟩, Int.toNat_natCast, show ((vl tb n ar o (a / n2) (b / n2) * n2 : Nat) : Int) + ((vl tb' n2 ar o (a % n2) (b % n2) : Nat) : Int) = ((pdF tb tb' n n2 ar o a b : Nat) : Int) by unfold pdF; omega, zlet_eq, wr_s (by omega)]
    exact x1
theorem cpd2 (hF : 8 ≤ F) (hS1 : 9 < S1) (hS2 : 9 < S2) (hk1 : kt S1 = 0 + 3) (hk2 : kt S2 = 0 + 3) (hw : WF n ar tb) (hw' : WF n2 ar tb') (hn' : n * n2 ≤ 7) {o : Nat} (hol : o < ar.length) {k : Int → HF → RO} : ∀ (m a N : Nat) (h : HF) (T : Nat → Nat → Int), a + m = rwN (n * n2) (ar.getD o 0) → m + 1 ≤ N → RepC h S1 n ar tb → RepC h S2 n2 ar tb' → RepC h 6 (n * n2) ar T → Dn ar.length (fun o => rwN (n * n2) (ar.getD o 0)) (fun o => clN (n * n2) (ar.getD o 0)) (fun _ _ _ => true) (fun o a b => ix (n * n2) (ar.getD o 0) a b) (fun o a b => ((pdF tb tb' n n2 ar o a b : Nat) : Int)) T o a 0 → ∃ h' T', LX0_becomeProduct_40 F 6 S1 S2 (n2 : Int) (o : Int) k N (a : Int) h = k (o : Int) h' ∧ RepC h' 6 (n * n2) ar T' ∧ Dn ar.length (fun o => rwN (n * n2) (ar.getD o 0)) (fun o => clN (n * n2) (ar.getD o 0)) (fun _ _ _ => true) (fun o a b => ix (n * n2) (ar.getD o 0) a b) (fun o a b => ((pdF tb tb' n n2 ar o a b : Nat) : Int)) T' (o + 1) 0 0 ∧ ∀ c i, c ≠ 9 → h' c i = h c i := by
  have hl := hw.2.1
  have h11 : 1 * 1 ≤ n * n2 := Nat.mul_le_mul hw.1.1 hw'.1.1
  have hle := rw_le (n := n * n2) (r := ar.getD o 0) (by omega)
  intro m
  induction m with
  | zero =>
    intro a N h T ha hN hc1 hc2 hr hD
    obtain ⟨N, rfl⟩ : ∃ M, N = M + 1 := ⟨N - 1, by omega⟩
    rw [LX0_becomeProduct_40, rows_eq (by decide) (by omega) hr.1 (hr.2.2.2.1 o hol), zbd_some, if_neg (by omega)]
    exact ⟨h, T, rfl, hr, Dn_o (show rwN (n * n2) (ar.getD o 0) ≤ a by omega) hD, fun _ _ _ => rfl⟩
  | succ m ih =>
    intro a N h T ha hN hc1 hc2 hr hD
    obtain ⟨N, rfl⟩ : ∃ M, N = M + 1 := ⟨N - 1, by omega⟩
    obtain ⟨g, T1, y1, y2, y3, y4⟩ := cpd3 (F := F) hS1 hS2 hk1 hk2 hw hw' hn' hol (show a < rwN (n * n2) (ar.getD o 0) by omega) (k := fun x125_5 h => LX0_becomeProduct_40 F 6 S1 S2 (n2 : Int) (o : Int) k N (wr (x125_5 + 1)) h) (clN (n * n2) (ar.getD o 0)) 0 F h T (by omega) (by omega) hc1 hc2 hr hD
    obtain ⟨h', T', x1, x2, x3, x4⟩ := ih (a + 1) N g T1 (by omega) (by omega) (RepC_keep (fun i k hi => y4 _ _ (by omega)) hc1) (RepC_keep (fun i k hi => y4 _ _ (by omega)) hc2) y2 (Dn_a (Nat.le_refl _) y3)
    refine ⟨h', T', ?_, x2, x3, fun c i hc => by rw [x4 c i hc, y4 c i hc]⟩
    rw [LX0_becomeProduct_40, rows_eq (by decide) (by omega) hr.1 (hr.2.2.2.1 o hol), zbd_some, if_pos (by omega)]
    refine y1.trans ?_
    show LX0_becomeProduct_40 F 6 S1 S2 (n2 : Int) (o : Int) k N (wr ((a : Int) + 1)) g = _
    rw [wr_s (by omega)]
    exact x1
theorem cpd1 (hF : 8 ≤ F) (hS1 : 9 < S1) (hS2 : 9 < S2) (hk1 : kt S1 = 0 + 3) (hk2 : kt S2 = 0 + 3) (hw : WF n ar tb) (hw' : WF n2 ar tb') (hn' : n * n2 ≤ 7) {k : HF → RO} : ∀ (m o N : Nat) (h : HF) (T : Nat → Nat → Int), o + m = ar.length → m + 1 ≤ N → RepC h S1 n ar tb → RepC h S2 n2 ar tb' → RepC h 6 (n * n2) ar T → Dn ar.length (fun o => rwN (n * n2) (ar.getD o 0)) (fun o => clN (n * n2) (ar.getD o 0)) (fun _ _ _ => true) (fun o a b => ix (n * n2) (ar.getD o 0) a b) (fun o a b => ((pdF tb tb' n n2 ar o a b : Nat) : Int)) T o 0 0 → ∃ h' T', LX0_becomeProduct_28 F 6 S1 S2 (n2 : Int) k N (o : Int) h = k h' ∧ RepC h' 6 (n * n2) ar T' ∧ TG (n * n2) ar T' (pdF tb tb' n n2 ar) ∧ ∀ c i, c ≠ 9 → h' c i = h c i := by
  have hl := hw.2.1
  have h11 : 1 * 1 ≤ n * n2 := Nat.mul_le_mul hw.1.1 hw'.1.1
  intro m
  induction m with
  | zero =>
    intro o N h T ho hN hc1 hc2 hr hD
    obtain ⟨N, rfl⟩ : ∃ M, N = M + 1 := ⟨N - 1, by omega⟩
    rw [LX0_becomeProduct_28]
    simp only [zgf]
    rw [hr.2.1, if_neg (by omega)]
    exact ⟨h, T, rfl, hr, fun o' a b h1 h2 h3 => hD o' a b h1 h2 h3 rfl (Or.inl (by omega)), fun _ _ _ => rfl⟩
  | succ m ih =>
    intro o N h T ho' hN hc1 hc2 hr hD
    obtain ⟨N, rfl⟩ : ∃ M, N = M + 1 := ⟨N - 1, by omega⟩
    have hle := rw_le (n := n * n2) (r := ar.getD o 0) (by omega)
    obtain ⟨g, T1, y1, y2, y3, y4⟩ := cpd2 (F := F) hF hS1 hS2 hk1 hk2 hw hw' hn' (show o < ar.length by omega) (k := fun x131_4 h => LX0_becomeProduct_28 F 6 S1 S2 (n2 : Int) k N (wr (x131_4 + 1)) h) (rwN (n * n2) (ar.getD o 0)) 0 F h T (by omega) (by omega) hc1 hc2 hr hD
    obtain ⟨h', T', x1, x2, x3, x4⟩ := ih (o + 1) N g T1 (by omega) (by omega) (RepC_keep (fun i k hi => y4 _ _ (by omega)) hc1) (RepC_keep (fun i k hi => y4 _ _ (by omega)) hc2) y2 y3
    refine ⟨h', T', ?_, x2, x3, fun c i hc => by rw [x4 c i hc, y4 c i hc]⟩
    rw [LX0_becomeProduct_28]
    simp only [zgf]
    rw [hr.2.1, if_pos (by omega)]
    refine y1.trans ?_
    show LX0_becomeProduct_28 F 6 S1 S2 (n2 : Int) k N (wr ((o : Int) + 1)) g = _
    rw [wr_s (by omega)]
    exact x1
theorem becomeProduct_eq {h : HF} (hF : 200 ≤ F) (hS1 : 9 < S1) (hS2 : 9 < S2) (hk1 : kt S1 = 0 + 3) (hk2 : kt S2 = 0 + 3) (hw : WF n ar tb) (hw' : WF n2 ar tb') (hn' : n * n2 ≤ 7) (h8 : h 8 0 = 0) (hc1 : RepC h S1 n ar tb) (hc2 : RepC h S2 n2 ar tb') : ∃ h' T', fX0_becomeProduct F 6 S1 S2 h = some (0, h') ∧ RepC h' 6 (n * n2) ar T' ∧ TG (n * n2) ar T' (pdF tb tb' n n2 ar) ∧ ∀ c i, (c < 6 ∨ 9 < c ∨ (c = 8 ∧ i = 0)) → h' c i = h c i := by
  have hl := hw.2.1
  have h11 : 1 * 1 ≤ n * n2 := Nat.mul_le_mul hw.1.1 hw'.1.1
  have hz := hw'.1.1
  obtain ⟨e1, e2⟩ := ars_cod ar 4 hl (ar_mem hw)
  obtain ⟨g, y1, y2, y3⟩ := shape_eq (F := F) (A := 6) (n := n * n2) (v := cod ar) (h := h) hF (by decide) (by omega) e1 h8
  rw [e2] at y2
  obtain ⟨h', T', x1, x2, x3, x4⟩ := cpd1 (F := F) (by omega) hS1 hS2 hk1 hk2 hw hw' hn' (k := fun h => some (0, h)) ar.length 0 F g _ (by omega) (by omega) (RepC_keep (fun i k hi => y3 _ _ (by omega)) hc1) (RepC_keep (fun i k hi => y3 _ _ (by omega)) hc2) y2 Dn_0
  refine ⟨h', T', ?_, x2, x3, fun c i hc => by rw [x4 c i (by omega), y3 c i (by omega)]⟩
  unfold fX0_becomeProduct
  simp only [zgf, zjn]
  rw [hc2.1, if_neg (by omega), hc1.1, hc1.2.2.1, show (n : Int) * (n2 : Int) = ((n * n2 : Nat) : Int) by rw [Int.natCast_mul], wr_id ⟨by omega, by omega⟩, y1, zbd_some]
  exact x1
end PD
