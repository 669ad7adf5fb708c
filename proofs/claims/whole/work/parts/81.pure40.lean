/-! product: the reference, the call -/
section PM
variable {F d e n n2 : Nat} {ar : List Nat} {tb tb' : Nat → Nat → Int}
theorem mpd3 {u3 u5 : Int} (hd : d < 8) (he : e < 8) (hw : WF n ar tb) (hw' : WF n2 ar tb') (hn' : n * n2 ≤ 7) {o a : Nat} (hol : o < ar.length) (ha : a < rwN (n * n2) (ar.getD o 0)) {k : Int → HF → RO} : ∀ (m b N : Nat) (h : HF) (T : Nat → Nat → Int), b + m = clN (n * n2) (ar.getD o 0) → m + 1 ≤ N → RepM h 184 185 186 187 d n ar tb → RepM h 184 185 186 187 e n2 ar tb' → RepM h 184 185 186 187 8 (n * n2) ar T → Dn ar.length (fun o => rwN (n * n2) (ar.getD o 0)) (fun o => clN (n * n2) (ar.getD o 0)) (fun _ _ _ => true) (fun o a b => ix (n * n2) (ar.getD o 0) a b) (fun o a b => ((pdF tb tb' n n2 ar o a b : Nat) : Int)) T o a b → ∃ h' T', LX12_product_132 F 181 (d : Int) (e : Int) u3 (n2 : Int) u5 (o : Int) (a : Int) k N (b : Int) h = k (a : Int) h' ∧ RepM h' 184 185 186 187 8 (n * n2) ar T' ∧ Dn ar.length (fun o => rwN (n * n2) (ar.getD o 0)) (fun o => clN (n * n2) (ar.getD o 0)) (fun _ _ _ => true) (fun o a b => ix (n * n2) (ar.getD o 0) a b) (fun o a b => ((pdF tb tb' n n2 ar o a b : Nat) : Int)) T' o a (clN (n * n2) (ar.getD o 0)) ∧ ∀ c i, (c ≠ 187 ∨ i < 1568) → h' c i = h c i := by
  have hl := hw.2.1
  have h2 := hw.2.2.1 o hol
  have h11 : 1 * 1 ≤ n * n2 := Nat.mul_le_mul hw.1.1 hw'.1.1
  have hle := rw_le (n := n * n2) (r := ar.getD o 0) (by omega)
  have hwz : ∀ T : Nat → Nat → Int, WF (n * n2) ar (fun _ _ => 0) := fun T => ⟨by omega, hl, hw.2.2.1, fun _ _ _ _ => ⟨Int.le_refl _, by show (0 : Int) < ((n * n2 : Nat) : Int); omega⟩⟩
  have up : ∀ (h : HF) (T : Nat → Nat → Int), RepM h 184 185 186 187 8 (n * n2) ar T → fX12_upTo F 181 8 (o : Int) 1 h = some (((clN (n * n2) (ar.getD o 0) : Nat) : Int), h) := fun h T hr => by
    unfold fX12_upTo clN
    simp only [zjn]
    have := marityG (F := F) (d := 8) (by decide) hl hr hol
    rw [show fX12_arity F 181 8 (o : Int) h = _ from this, zbd_some]
    by_cases q : ar.getD o 0 = 2
    · have m8 := msz (d := 8) (h := h) (by decide) hr (f := fun x => some (x, h))
      rw [if_pos (by omega), if_pos q]
      exact m8
    · rw [if_neg (by omega), if_neg q]; rfl
  intro m
  induction m with
  | zero =>
    intro b N h T hb hN hm1 hm2 hr hD
    obtain ⟨N, rfl⟩ : ∃ M, N = M + 1 := ⟨N - 1, by omega⟩
    rw [LX12_product_132, up h T hr, zbd_some, if_neg (by omega)]
    exact ⟨h, T, rfl, hr, by rw [← show b = clN (n * n2) (ar.getD o 0) by omega]; exact hD, fun _ _ _ => rfl⟩
  | succ m ih =>
    intro b N h T hb hN hm1 hm2 hr hD
    obtain ⟨N, rfl⟩ : ∃ M, N = M + 1 := ⟨N - 1, by omega⟩
    have hbc : b < clN (n * n2) (ar.getD o 0) := by omega
    have hp := ix_pw h2 (by omega) ha hbc
    have hp2 := pw_le hn' h2
    obtain ⟨a1, a2⟩ := pd_dv hw.1.1 hw'.1.1 (Or.inl ha)
    obtain ⟨b1, b2⟩ := pd_dv hw.1.1 hw'.1.1 (Or.inr hbc)
    have hlt := pd_lt hw hw' hol ha hbc
    have hr' := RepM_put8 (v := ((pdF tb tb' n n2 ar o a b : Nat) : Int)) hn' hw.2.2.1 hol hp hr
    have hD' := Dn_put (o := o) (a := a) (b := b) (fun a' b' ha' hb' _ e => by obtain ⟨rfl, rfl⟩ := ix_inj h2 ha' hb' ha hbc e; rfl) hD
    obtain ⟨h', T', x1, x2, x3, x4⟩ := ih (b + 1) N _ _ (by omega) (by omega) (RepM_row hd hw (fun c q hq => stp_ne (by omega)) hm1) (RepM_row he hw' (fun c q hq => stp_ne (by omega)) hm2) hr' hD'
    refine ⟨h', T', ?_, x2, x3, fun c i hc => by rw [x4 c i hc, stp_ne (by omega)]⟩
    have hz : ((n2 : Nat) : Int) ≠ 0 := by have := hw'.1.1; omega
    have c1 := mval (F := F) (show d < 10 by omega) hw hm1 hol a1 b1
    have c2 := mval (F := F) (show e < 10 by omega) hw' hm2 hol a2 b2
    have v1 := (vl_eq hw hol a1 b1).2
    have v2 := (vl_eq hw' hol a2 b2).2
    have e3 : ((vl tb n ar o (a / n2) (b / n2) : Nat) : Int) * (n2 : Int) = ((vl tb n ar o (a / n2) (b / n2) * n2 : Nat) : Int) := by rw [Int.natCast_mul]
    have hlt' : vl tb n ar o (a / n2) (b / n2) * n2 + vl tb' n2 ar o (a % n2) (b % n2) < n * n2 := hlt
    have st := setAt_eq (F := F) (d := 8) (a := (a : Int)) (b := (b : Int)) (v := ((pdF tb tb' n n2 ar o a b : Nat) : Int)) (by decide) hn' hl h2 hr hol (by omega) (fun z => by unfold rwN at ha; rw [if_neg (by omega)] at ha; omega) (fun z => by unfold clN at hbc; rw [if_pos (by omega)] at hbc; omega)
    rw [Int.toNat_natCast, Int.toNat_natCast] at st
    rw [LX12_product_132, up h T hr, zbd_some, if_pos (by omega), zdv_ok hz, zdv_ok hz, wdiv_N (by omega), wdiv_N (by omega), c1, zbd_some, zdv_ok hz, zdv_ok hz, wrem_N (by omega), wrem_N (by omega), c2, zbd_some, e3, wr_id (x := ((vl tb n ar o (a / n2) (b / n2) * n2 : Nat) : Int)) ⟨by omega, by omega⟩, wr_id ⟨by omega, by omega⟩, show ((vl tb n ar o (a / n2) (b / n2) * n2 : Nat) : Int) + ((vl tb' n2 ar o (a % n2) (b % n2) : Nat) : Int) = ((pdF tb tb' n n2 ar o a b : Nat) : Int) by unfold pdF; omega, show fX12_setAt F 181 8 (o : Int) (a : Int) (b : Int) ((pdF tb tb' n n2 ar o a b : Nat) : Int) h = _ from st, zbd_some, zlet_eq, wr_s (by omega)]
    exact x1
theorem mpd2 {u3 u5 : Int} (hF : 8 ≤ F) (hd : d < 8) (he : e < 8) (hw : WF n ar tb) (hw' : WF n2 ar tb') (hn' : n * n2 ≤ 7) {o : Nat} (hol : o < ar.length) {k : Int → HF → RO} : ∀ (m a N : Nat) (h : HF) (T : Nat → Nat → Int), a + m = rwN (n * n2) (ar.getD o 0) → m + 1 ≤ N → RepM h 184 185 186 187 d n ar tb → RepM h 184 185 186 187 e n2 ar tb' → RepM h 184 185 186 187 8 (n * n2) ar T → Dn ar.length (fun o => rwN (n * n2) (ar.getD o 0)) (fun o => clN (n * n2) (ar.getD o 0)) (fun _ _ _ => true) (fun o a b => ix (n * n2) (ar.getD o 0) a b) (fun o a b => ((pdF tb tb' n n2 ar o a b : Nat) : Int)) T o a 0 → ∃ h' T', LX12_product_115 F 181 (d : Int) (e : Int) u3 (n2 : Int) u5 (o : Int) k N (a : Int) h = k (o : Int) h' ∧ RepM h' 184 185 186 187 8 (n * n2) ar T' ∧ Dn ar.length (fun o => rwN (n * n2) (ar.getD o 0)) (fun o => clN (n * n2) (ar.getD o 0)) (fun _ _ _ => true) (fun o a b => ix (n * n2) (ar.getD o 0) a b) (fun o a b => ((pdF tb tb' n n2 ar o a b : Nat) : Int)) T' (o + 1) 0 0 ∧ ∀ c i, (c ≠ 187 ∨ i < 1568) → h' c i = h c i := by
  have hl := hw.2.1
  have h11 : 1 * 1 ≤ n * n2 := Nat.mul_le_mul hw.1.1 hw'.1.1
  have hle := rw_le (n := n * n2) (r := ar.getD o 0) (by omega)
  have up : ∀ (h : HF) (T : Nat → Nat → Int), RepM h 184 185 186 187 8 (n * n2) ar T → fX12_upTo F 181 8 (o : Int) 0 h = some (((rwN (n * n2) (ar.getD o 0) : Nat) : Int), h) := fun h T hr => by
    unfold fX12_upTo rwN
    simp only [zjn]
    have := marityG (F := F) (d := 8) (by decide) hl hr hol
    rw [show fX12_arity F 181 8 (o : Int) h = _ from this, zbd_some]
    by_cases q : ar.getD o 0 = 0
    · rw [if_neg (by omega), if_pos q]; rfl
    · have m8 := msz (d := 8) (h := h) (by decide) hr (f := fun x => some (x, h))
      rw [if_pos (by omega), if_neg q]
      exact m8
  intro m
  induction m with
  | zero =>
    intro a N h T ha hN hm1 hm2 hr hD
    obtain ⟨N, rfl⟩ : ∃ M, N = M + 1 := ⟨N - 1, by omega⟩
    rw [LX12_product_115, up h T hr, zbd_some, if_neg (by omega)]
    exact ⟨h, T, rfl, hr, Dn_o (show rwN (n * n2) (ar.getD o 0) ≤ a by omega) hD, fun _ _ _ => rfl⟩
  | succ m ih =>
    intro a N h T ha hN hm1 hm2 hr hD
    obtain ⟨N, rfl⟩ : ∃ M, N = M + 1 := ⟨N - 1, by omega⟩
    obtain ⟨g, T1, y1, y2, y3, y4⟩ := mpd3 (F := F) (u3 := u3) (u5 := u5) hd he hw hw' hn' hol (show a < rwN (n * n2) (ar.getD o 0) by omega) (k := fun x202_7 h => LX12_product_115 F 181 (d : Int) (e : Int) u3 (n2 : Int) u5 (o : Int) k N (wr (x202_7 + 1)) h) (clN (n * n2) (ar.getD o 0)) 0 F h T (by omega) (by omega) hm1 hm2 hr hD
    obtain ⟨h', T', x1, x2, x3, x4⟩ := ih (a + 1) N g T1 (by omega) (by omega) (RepM_row hd hw (fun c q hq => y4 c q (by omega)) hm1) (RepM_row he hw' (fun c q hq => y4 c q (by omega)) hm2) y2 (Dn_a (Nat.le_refl _) y3)
    refine ⟨h', T', ?_, x2, x3, fun c i hc => by rw [x4 c i hc, y4 c i hc]⟩
    rw [LX12_product_115, up h T hr, zbd_some, if_pos (by omega)]
    refine y1.trans ?_
    show LX12_product_115 F 181 (d : Int) (e : Int) u3 (n2 : Int) u5 (o : Int) k N (wr ((a : Int) + 1)) g = _
    rw [wr_s (by omega)]
    exact x1
theorem mpd1 {u3 u5 : Int} (hF : 8 ≤ F) (hd : d < 8) (he : e < 8) (hw : WF n ar tb) (hw' : WF n2 ar tb') (hn' : n * n2 ≤ 7) {k : Int → HF → RO} : ∀ (m o N : Nat) (h : HF) (T : Nat → Nat → Int), o + m = ar.length → m + 1 ≤ N → RepM h 184 185 186 187 d n ar tb → RepM h 184 185 186 187 e n2 ar tb' → RepM h 184 185 186 187 8 (n * n2) ar T → Dn ar.length (fun o => rwN (n * n2) (ar.getD o 0)) (fun o => clN (n * n2) (ar.getD o 0)) (fun _ _ _ => true) (fun o a b => ix (n * n2) (ar.getD o 0) a b) (fun o a b => ((pdF tb tb' n n2 ar o a b : Nat) : Int)) T o 0 0 → ∃ h' T', LX12_product_101 F 181 (d : Int) (e : Int) u3 (n2 : Int) u5 k N (o : Int) h = k u5 h' ∧ RepM h' 184 185 186 187 8 (n * n2) ar T' ∧ TG (n * n2) ar T' (pdF tb tb' n n2 ar) ∧ ∀ c i, (c ≠ 187 ∨ i < 1568) → h' c i = h c i := by
  have hl := hw.2.1
  have h11 : 1 * 1 ≤ n * n2 := Nat.mul_le_mul hw.1.1 hw'.1.1
  intro m
  induction m with
  | zero =>
    intro o N h T ho hN hm1 hm2 hr hD
    obtain ⟨N, rfl⟩ : ∃ M, N = M + 1 := ⟨N - 1, by omega⟩
    rw [LX12_product_101, mops (by omega) hm1, if_neg (by omega)]
    exact ⟨h, T, rfl, hr, fun o' a b h1 h2 h3 => hD o' a b h1 h2 h3 rfl (Or.inl (by omega)), fun _ _ _ => rfl⟩
  | succ m ih =>
    intro o N h T ho hN hm1 hm2 hr hD
    obtain ⟨N, rfl⟩ : ∃ M, N = M + 1 := ⟨N - 1, by omega⟩
    have hle := rw_le (n := n * n2) (r := ar.getD o 0) (by omega)
    obtain ⟨g, T1, y1, y2, y3, y4⟩ := mpd2 (F := F) (u3 := u3) (u5 := u5) hF hd he hw hw' hn' (show o < ar.length by omega) (k := fun x208_6 h => LX12_product_101 F 181 (d : Int) (e : Int) u3 (n2 : Int) u5 k N (wr (x208_6 + 1)) h) (rwN (n * n2) (ar.getD o 0)) 0 F h T (by omega) (by omega) hm1 hm2 hr hD
    obtain ⟨h', T', x1, x2, x3, x4⟩ := ih (o + 1) N g T1 (by omega) (by omega) (RepM_row hd hw (fun c q hq => y4 c q (by omega)) hm1) (RepM_row he hw' (fun c q hq => y4 c q (by omega)) hm2) y2 y3
    refine ⟨h', T', ?_, x2, x3, fun c i hc => by rw [x4 c i hc, y4 c i hc]⟩
    rw [LX12_product_101, mops (by omega) hm1, if_pos (by omega)]
    refine y1.trans ?_
    show LX12_product_101 F 181 (d : Int) (e : Int) u3 (n2 : Int) u5 k N (wr ((o : Int) + 1)) g = _
    rw [wr_s (by omega)]
    exact x1
end PM
theorem ps_product {I6 : HF → Prop} {F : Nat} (hF : 200 ≤ F) : PS_product F (InvP I4d I5d I6) := by
  intro h a1 a2 a3 hI _ _ _
  have hI' := Inv_thrown hI
  have hD : ∀ d, d < 8 → DR h d := fun d hd => I4d_get hI.2.2.2.1 hd
  unfold fX11_product fX12_product
  simp only [zjn, zpf, zgf, zlet]
  by_cases qt : 0 ≤ a3 ∧ a3 < 8
  · have ct : fX11_isDrawer F a3 h = some (1, h) := by rw [isDrawer_c, bl_pos qt]
    rcases pair (F := F) (x := a1) (y := a2) hD with ⟨z, c1⟩ | ⟨d, e, rfl, rfl, hd, he, z, c1⟩ | ⟨d, e, n, n2, ar, ar', tb, tb', rfl, rfl, hd, he, hw, hc, hm, hw', hc', hm', c1⟩
    · refine ⟨-3, h, stp h 181 0 0, ?_, ?_, hI'⟩
      · rw [ct, zbd_some, if_neg (show ¬ (1 : Int) = 0 by decide), c1, zbd_some, if_neg (by decide)]
      · rw [isDrawer_m, zbd_some]
        by_cases q1 : 0 ≤ a1 ∧ a1 < 8
        · rw [bl_pos q1, if_neg (show ¬ (1 : Int) = 0 by decide), isDrawer_m, zbd_some, bl_neg (fun q2 => z ⟨q1, q2⟩), if_pos rfl]
        · rw [bl_neg q1, if_pos rfl]
    · refine ⟨-2, h, stp h 181 0 0, ?_, ?_, hI'⟩
      · rw [ct, zbd_some, if_neg (show ¬ (1 : Int) = 0 by decide), c1, zbd_some, if_neg (by decide)]
      · rw [isDrawer_m, zbd_some, bl_pos (show 0 ≤ (d : Int) ∧ (d : Int) < 8 by omega), if_neg (show ¬ (1 : Int) = 0 by decide), isDrawer_m, zbd_some, bl_pos (show 0 ≤ (e : Int) ∧ (e : Int) < 8 by omega), if_neg (show ¬ (1 : Int) = 0 by decide), isDrawer_m, zbd_some, bl_pos qt, if_neg (show ¬ (1 : Int) = 0 by decide), rdm3 (by omega), rdm3 (by omega), stp_ne (Or.inl (by decide)), stp_ne (Or.inl (by decide))]
        rcases z with z | z
        · rw [if_pos z]
        · by_cases z1 : h 184 d = 0
          · rw [if_pos z1]
          · rw [if_neg z1, if_pos z]
    · have ref0 : ∀ (h' : HF), RepM h' 184 185 186 187 d n ar tb → RepM h' 184 185 186 187 e n2 ar' tb' → (zbd (fX12_isDrawer F 181 (d : Int) h') fun r1 h => if r1 = 0 then some (-3, h) else zbd (fX12_isDrawer F 181 (e : Int) h) fun r2 h => if r2 = 0 then some (-3, h) else zbd (fX12_isDrawer F 181 a3 h) fun r3 h => if r3 = 0 then some (-3, h) else zrd h (181 + 3) (d : Int) fun x4 => if x4 = 0 then some (-2, h) else zrd h (181 + 3) (e : Int) fun x5 => if x5 = 0 then some (-2, h) else zrd h (181 + 3) (e : Int) fun x6 => zrd h (181 + 3) (d : Int) fun x7 => zbd (fX12_isOneSignature F 181 (d : Int) (e : Int) h) fun r9 h => if r9 = 0 then some (-4, h) else if 7 < wr (x7 * x6) then some (-4, h) else zbd (fX12_like F 181 (d : Int) (wr (x7 * x6)) h) fun _ h => LX12_product_101 F 181 (d : Int) (e : Int) a3 x6 (wr (x7 * x6)) (fun x214_5 h => zbd (fX12_keep F 181 a3 h) fun _ h => zbd (fX12_copy F 181 8 a3 h) fun _ h => some (x214_5, h)) F 0 h) = (if ar = ar' then (if 7 < n * n2 then some (-4, h') else zbd (fX12_like F 181 (d : Int) ((n * n2 : Nat) : Int) h') fun _ h => LX12_product_101 F 181 (d : Int) (e : Int) a3 (n2 : Int) ((n * n2 : Nat) : Int) (fun x214_5 h => zbd (fX12_keep F 181 a3 h) fun _ h => zbd (fX12_copy F 181 8 a3 h) fun _ h => some (x214_5, h)) F 0 h) else some (-4, h')) := fun h' hm hm' => by
        have h5 : n * n2 ≤ 7 * 7 := Nat.mul_le_mul hw.1.2 hw'.1.2
        have := hw.1.1
        have := hw'.1.1
        rw [isDrawer_m, zbd_some, bl_pos (show 0 ≤ (d : Int) ∧ (d : Int) < 8 by omega), if_neg (show ¬ (1 : Int) = 0 by decide), isDrawer_m, zbd_some, bl_pos (show 0 ≤ (e : Int) ∧ (e : Int) < 8 by omega), if_neg (show ¬ (1 : Int) = 0 by decide), isDrawer_m, zbd_some, bl_pos qt, if_neg (show ¬ (1 : Int) = 0 by decide), msz (by omega) hm, if_neg (by omega), msz (by omega) hm', if_neg (by omega), msz (by omega) hm', msz (by omega) hm, oneSig_eq (by omega) (by omega) (by omega) hw hw' hm hm', zbd_some, show (n : Int) * (n2 : Int) = ((n * n2 : Nat) : Int) by rw [Int.natCast_mul], wr_id ⟨by omega, by omega⟩]
        by_cases q : ar = ar'
        · rw [if_pos q, if_pos q, if_neg (show ¬ (1 : Int) = 0 by decide)]
          by_cases q2 : 7 < n * n2
          · rw [if_pos (by omega), if_pos q2]
          · rw [if_neg (by omega), if_neg q2]
        · rw [if_neg q, if_neg q, if_pos rfl]
      by_cases q : ar = ar'
      · subst q
        have h5 : n * n2 ≤ 7 * 7 := Nat.mul_le_mul hw.1.2 hw'.1.2
        have h11 : 1 * 1 ≤ n * n2 := Nat.mul_le_mul hw.1.1 hw'.1.1
        have em : (n : Int) * (n2 : Int) = ((n * n2 : Nat) : Int) := by rw [Int.natCast_mul]
        rw [if_pos rfl] at c1
        by_cases q2 : 7 < n * n2
        · refine ⟨-4, h, stp h 181 0 0, ?_, ?_, hI'⟩
          · rw [ct, zbd_some, if_neg (show ¬ (1 : Int) = 0 by decide), c1, zbd_some, if_pos rfl, drw_at hd, drw_at he, hc.1, hc'.1, em, wr_id ⟨by omega, by omega⟩, if_pos (by omega)]
          · refine (ref0 _ (RepM_thrown hm) (RepM_thrown hm')).trans ?_
            rw [if_pos rfl, if_pos q2]
        · obtain ⟨t, rfl⟩ : ∃ t : Nat, a3 = (t : Int) := ⟨a3.toNat, by omega⟩
          have ht : t < 8 := by omega
          obtain ⟨hA, T, i1, i2, i3, i4⟩ := becomeProduct_eq (F := F) (h := h) hF (show 9 < 117 + 4 * d by omega) (show 9 < 117 + 4 * e by omega) (kt_drw d hd) (kt_drw e he) hw hw' (by omega) (I4d_8 hI.2.2.2.1) hc hc'
          have hwT : WF (n * n2) ar T := TG_WF (by omega) hw.2.1 hw.2.2.1 i3 (fun o a b ho ha hb => pd_lt hw hw' ho ha hb)
          have hIA : InvP I4d I5d I6 hA := Inv_while hI (fun c k x => by rw [i4 c k (by omega)])
          obtain ⟨g, g1, g2, g3, K⟩ := put_both (t := t) hF ht hIA hwT i2
          have tg : ∀ c k, (c ≠ 181 ∨ k ≠ 0) → stp g 181 0 0 c k = g c k := fun c k x => stp_ne x
          have gh : ∀ c k, 184 ≤ c → c ≤ 187 → g c k = h c k := fun c k x y => by rw [g3 _ _ (by omega) (by omega) (by omega), i4 _ _ (by omega)]
          have mg : RepM (stp g 181 0 0) 184 185 186 187 d n ar tb := RepM_row hd hw (fun c q hq => by rw [tg _ _ (by omega), gh _ _ (by omega) (by omega)]) hm
          have mg' : RepM (stp g 181 0 0) 184 185 186 187 e n2 ar tb' := RepM_row he hw' (fun c q hq => by rw [tg _ _ (by omega), gh _ _ (by omega) (by omega)]) hm'
          obtain ⟨hr2, T0, v1, v2, v3⟩ := like_eq (F := F) (n' := n * n2) (h := stp g 181 0 0) hF hd hw (by omega) mg
          obtain ⟨hB, T1, w1, w2, w3, w4⟩ := mpd1 (F := F) (u3 := (t : Int)) (u5 := ((n * n2 : Nat) : Int)) (by omega) hd he hw hw' (by omega) (k := fun (x214_5 : Int) (h : HF) => zbd (fX12_keep F 181 (t : Int) h) fun _ h => zbd (fX12_copy F 181 8 (t : Int) h) fun _ h => some (x214_5, h)) ar.length 0 F hr2 T0 (by omega) (by have := hw.2.1; omega) (RepM_row hd hw (fun c q hq => v3 _ _ (by omega) (by omega) (by omega)) mg) (RepM_row he hw' (fun c q hq => v3 _ _ (by omega) (by omega) (by omega)) mg') v2 Dn_0
          have mB : RepM hB 184 185 186 187 8 (n * n2) ar T := RepM_ext (TG_eq (by omega) hw.2.2.1 w3 i3) w2
          obtain ⟨h3, h4, z1, z2, z3, z4, z5⟩ := K hB (fun c k x => by rw [w4 _ _ (by omega), v3 _ _ (by omega) (by omega) (by omega), tg _ _ (by omega)]) mB
          refine ⟨((n * n2 : Nat) : Int), g, h4, ?_, ?_, z3⟩
          · rw [ct, zbd_some, if_neg (show ¬ (1 : Int) = 0 by decide), c1, zbd_some, if_pos rfl, drw_at hd, drw_at he, hc.1, hc'.1, em, wr_id ⟨by omega, by omega⟩, if_neg (by omega)]
            show zbd (fX0_becomeProduct F 6 (117 + 4 * d) (117 + 4 * e) h) _ = _
            rw [i1, zbd_some, g1, zbd_some, show g (0 + 6) 0 = _ from g2.1]
          · refine (ref0 _ mg mg').trans ?_
            rw [if_pos rfl, if_neg q2, v1, zbd_some]
            refine w1.trans ?_
            show zbd (fX12_keep F 181 (t : Int) hB) _ = _
            rw [z1, zbd_some, z2, zbd_some]
      · rw [if_neg q] at c1
        refine ⟨-4, h, stp h 181 0 0, ?_, ?_, hI'⟩
        · rw [ct, zbd_some, if_neg (show ¬ (1 : Int) = 0 by decide), c1, zbd_some, if_neg (by decide)]
        · refine (ref0 _ (RepM_thrown hm) (RepM_thrown hm')).trans ?_
          rw [if_neg q]
  · refine ⟨-3, h, stp h 181 0 0, ?_, ?_, hI'⟩
    · rw [isDrawer_c, zbd_some, bl_neg qt, if_pos rfl]
    · rw [isDrawer_m, zbd_some]
      by_cases q1 : 0 ≤ a1 ∧ a1 < 8
      · rw [bl_pos q1, if_neg (show ¬ (1 : Int) = 0 by decide), isDrawer_m, zbd_some]
        by_cases q2 : 0 ≤ a2 ∧ a2 < 8
        · rw [bl_pos q2, if_neg (show ¬ (1 : Int) = 0 by decide), isDrawer_m, zbd_some, bl_neg qt, if_pos rfl]
        · rw [bl_neg q2, if_pos rfl]
      · rw [bl_neg q1, if_pos rfl]
