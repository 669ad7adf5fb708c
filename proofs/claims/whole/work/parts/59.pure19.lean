/-! set -/
theorem sto_inj {n : Nat} {ar : List Nat} {o o' k k' : Nat} (hk : k < pw n (ar.getD o 0)) (hk' : k' < pw n (ar.getD o' 0)) (e : sto n ar o + k = sto n ar o' + k') : o = o' ∧ k = k' := by
  rcases Nat.lt_trichotomy o o' with q | q | q
  · have := sto_mono (n := n) (ar := ar) (o := o) o' q
    omega
  · subst q
    exact ⟨rfl, by omega⟩
  · have := sto_mono (n := n) (ar := ar) (o := o') o q
    omega
def updT (tb : Nat → Nat → Int) (o i : Nat) (v : Int) (o' k' : Nat) : Int := if o' = o ∧ k' = i then v else tb o' k'
theorem RepC_keep {h h' : HF} {A n : Nat} {ar : List Nat} {tb : Nat → Nat → Int} (e : ∀ i k, i ≤ 3 → h' (A + i) k = h (A + i) k) (hr : RepC h A n ar tb) : RepC h' A n ar tb := by
  obtain ⟨b1, b2, b3, b4, b5, b6⟩ := hr
  exact ⟨(e 0 0 (by omega)).trans b1, (e 0 1 (by omega)).trans b2, (e 0 2 (by omega)).trans b3, fun o ho => (e 1 o (by omega)).trans (b4 o ho), fun o ho => (e 2 o (by omega)).trans (b5 o ho), fun o ho k hk => (e 3 _ (by omega)).trans (b6 o ho k hk)⟩
theorem RepC_put {h : HF} {A n o i : Nat} {ar : List Nat} {tb : Nat → Nat → Int} {v : Int} (hi : i < pw n (ar.getD o 0)) (hr : RepC h A n ar tb) : RepC (stp h (A + 3) (sto n ar o + i) v) A n ar (updT tb o i v) := by
  obtain ⟨b1, b2, b3, b4, b5, b6⟩ := hr
  refine ⟨by rw [stp_ne (by omega)]; exact b1, by rw [stp_ne (by omega)]; exact b2, by rw [stp_ne (by omega)]; exact b3, fun o ho => by rw [stp_ne (by omega)]; exact b4 o ho, fun o ho => by rw [stp_ne (by omega)]; exact b5 o ho, fun o' ho' k hk => ?_⟩
  unfold updT
  by_cases q : o' = o ∧ k = i
  · rw [if_pos q, q.1, q.2, stp_eq]
  · rw [if_neg q, stp_ne (Or.inr (fun z => q (by obtain ⟨x, y⟩ := sto_inj hk hi z; exact ⟨x, y⟩))), b6 o' ho' k hk]
theorem RepM_put {h : HF} {d n o i : Nat} {ar : List Nat} {tb : Nat → Nat → Int} {v : Int} (hw : WF n ar tb) (ho : o < ar.length) (hi : i < pw n (ar.getD o 0)) (hr : RepM h 184 185 186 187 d n ar tb) : RepM (stp h 187 (196 * d + 49 * o + i) v) 184 185 186 187 d n ar (updT tb o i v) := by
  obtain ⟨b1, b2, b3, b4⟩ := hr
  refine ⟨by rw [stp_ne (by omega)]; exact b1, by rw [stp_ne (by omega)]; exact b2, fun o ho => by rw [stp_ne (by omega)]; exact b3 o ho, fun o' ho' k hk => ?_⟩
  have h1 := pw_le hw.1.2 (hw.2.2.1 o ho)
  have h2 := pw_le hw.1.2 (hw.2.2.1 o' ho')
  unfold updT
  by_cases q : o' = o ∧ k = i
  · rw [if_pos q, q.1, q.2, stp_eq]
  · rw [if_neg q, stp_ne (Or.inr (by omega)), b4 o' ho' k hk]
theorem WF_put {n o i : Nat} {ar : List Nat} {tb : Nat → Nat → Int} {v : Int} (hw : WF n ar tb) (hv : 0 ≤ v ∧ v < (n : Int)) : WF n ar (updT tb o i v) := by
  refine ⟨hw.1, hw.2.1, hw.2.2.1, fun o' ho' k hk => ?_⟩
  unfold updT
  by_cases q : o' = o ∧ k = i
  · rw [if_pos q]; exact hv
  · rw [if_neg q]; exact hw.2.2.2 o' ho' k hk
/-- all but drawer d and what is only for a while -/
theorem Inv_drw {I6 : HF → Prop} {h h4 : HF} {d : Nat} (hI : InvP I4d I5d I6 h) (e : ∀ c k, (c ≤ 4 ∨ (c = 8 ∧ k = 0) ∨ (77 ≤ c ∧ c ≤ 86) ∨ (117 ≤ c ∧ c ≤ 180 ∧ (c < 117 + 4 * d ∨ 120 + 4 * d < c)) ∨ c = 182 ∨ c = 183 ∨ ((c = 184 ∨ c = 185) ∧ k ≠ d ∧ k < 8) ∨ (c = 186 ∧ k < 32 ∧ (k < 4 * d ∨ 4 * d + 4 ≤ k)) ∨ (c = 187 ∧ k < 1568 ∧ (k < 196 * d ∨ 196 * d + 196 ≤ k)) ∨ (194 ≤ c ∧ c ≤ 205) ∨ (c = 181 ∧ (k = 2 ∨ k = 4 ∨ k = 5))) → h4 c k = h c k) (hd : d < 8) (hD : DR h4 d) (h5 : I5d h4) : InvP I4d I5d I6 h4 := by
  refine Inv_change' hI (fun c k q => e c k (by omega)) (fun d' hd' => ?_) h5
  by_cases z : d' = d
  · subst z; exact hD
  · exact DR_off (fun i k hi => e _ _ (by omega)) (e _ _ (by omega)) (e _ _ (by omega)) (fun o ho => e _ _ (by omega)) (fun k hk => e _ _ (by omega)) (I4d_get hI.2.2.2.1 hd')
theorem rfs_eq {h h' : HF} {x : Int} (e : ∀ d : Nat, d < 8 → h' 184 d = h 184 d) : rfs h' x = rfs h x := by
  unfold rfs
  by_cases q : 0 ≤ x ∧ x < 8
  · rw [if_pos q, if_pos q, e _ (by omega)]
  · rw [if_neg q, if_neg q]
theorem ps_set {I6 : HF → Prop} {F : Nat} (hF : 200 ≤ F) : PS_set F (InvP I4d I5d I6) := by
  intro h a1 a2 a3 a4 a5 hI _ _ _ _ _
  have hD : ∀ d, d < 8 → DR h d := fun d hd => I4d_get hI.2.2.2.1 hd
  have hI' := Inv_thrown hI
  unfold fX11_set fX12_set
  simp only [zjn, zpf]
  by_cases q : rfs h a1 = 0
  · obtain ⟨d, n, ar, tb, rfl, hd, hw, hc, hm⟩ := held hD q
    have hm' := RepM_thrown hm
    by_cases q2 : 0 ≤ a2 ∧ a2 < (ar.length : Int)
    · obtain ⟨o, rfl⟩ : ∃ o : Nat, a2 = (o : Int) := ⟨a2.toNat, by omega⟩
      have ho : o < ar.length := by omega
      have ce : fX11_refuseOperation F 0 (d : Int) (o : Int) h = some (0, h) := by rw [refuseOp_c hD hd q hc, if_pos q2]
      obtain ⟨c1, c0⟩ := hasCell_eq (F := F) (a := a3) (b := a4) (kt_drw d hd) hw hc ho
      by_cases q6 : fitA n (ar.getD o 0) a3 a4
      · by_cases q7 : 0 ≤ a5 ∧ a5 < (n : Int)
        · obtain ⟨h1, e1, k1, K⟩ := keep2 hF hd (I5d_get hI.2.2.2.2.1) (hD d hd)
          have hl := hw.2.1
          have hi : ix n (ar.getD o 0) a3.toNat a4.toNat < pw n (ar.getD o 0) := ix_lt hw.1.1 (fun z => by have := q6.1 z; omega) (fun z => by have := q6.2 z; omega)
          have hc1 : RepC h1 (117 + 4 * d) n ar tb := RepC_keep (fun i k hi => k1 _ _ (by omega) (by omega)) hc
          have sp := spot_eq (F := F) (kt_drw d hd) hw hc1 ho q6.1 q6.2
          have h1' := sto_le hw.1.2 hw.2.2.1 o (by omega)
          have h2' := pw_le hw.1.2 (hw.2.2.1 o ho)
          obtain ⟨-, -, -, -, -, kk⟩ := zl_0 (117 + 4 * d) (kt_drw d hd)
          have mat : ∀ h', RepM h' 184 185 186 187 d n ar tb → fX12_at F 181 (d : Int) (o : Int) a3 a4 h' = some (((196 * d + 49 * o + ix n (ar.getD o 0) a3.toNat a4.toNat : Nat) : Int), h') := fun h' hr => mat_eq (by omega) hw hr ho q6.1 q6.2
          generalize ix n (ar.getD o 0) a3.toNat a4.toNat = i at hi sp mat
          generalize hg : stp h1 (117 + 4 * d + 3) (sto n ar o + i) a5 = g
          have g1 : ∀ c k, c ≠ 117 + 4 * d + 3 → g c k = h1 c k := fun c k x => by rw [← hg, stp_ne (by omega)]
          have gh : ∀ c k, c ≠ 117 + 4 * d + 3 → (c < 12 ∨ 76 < c) → (c ≠ 10 ∨ (k ≠ 2 ∧ k ≠ 3)) → g c k = h c k := fun c k x y z => (g1 c k x).trans (k1 c k y z)
          have tg : ∀ c k, (c ≠ 181 ∨ k ≠ 0) → stp g 181 0 0 c k = g c k := fun c k x => stp_ne x
          obtain ⟨h3, e3, k3, i5⟩ := K (stp g 181 0 0) (fun c k x => by have := S5_out x; rw [tg c k (by omega), g1 c k (by omega)]) (by rw [tg _ _ (by omega), gh _ _ (by omega) (by omega) (by omega)]) (by rw [tg _ _ (by omega), gh _ _ (by omega) (by omega) (by omega)]) (fun o _ => by rw [tg _ _ (by omega), gh _ _ (by omega) (by omega) (by omega)]) (fun o _ => by rw [tg _ _ (by omega), gh _ _ (by omega) (by omega) (by omega)])
          have mg : RepM (stp g 181 0 0) 184 185 186 187 d n ar tb := RepM_keep (fun k => ⟨by rw [tg _ _ (by omega), gh _ _ (by omega) (by omega) (by omega)], by rw [tg _ _ (by omega), gh _ _ (by omega) (by omega) (by omega)], by rw [tg _ _ (by omega), gh _ _ (by omega) (by omega) (by omega)], by rw [tg _ _ (by omega), gh _ _ (by omega) (by omega) (by omega)]⟩) hm
          have m3 : RepM h3 184 185 186 187 d n ar tb := RepM_keep (fun k => ⟨k3 _ _ (by omega) (by omega), k3 _ _ (by omega) (by omega), k3 _ _ (by omega) (by omega), k3 _ _ (by omega) (by omega)⟩) mg
          obtain ⟨x1, x0⟩ := mareElements_eq (F := F) (a := a3) (b := a4) (show d < 10 by omega) hw mg ho
          refine ⟨tb o i, g, stp h3 187 (196 * d + 49 * o + i) a5, ?_, ?_, Inv_drw hI ?_ hd (Or.inr ⟨n, ar, updT tb o i a5, WF_put hw q7, ?_, RepM_put hw ho hi m3⟩) ?_⟩
          · rw [ce, zbd_some, if_pos (show (0 : Int) = 0 from rfl), drw_at hd, c1 q6, zbd_some, if_neg (show ¬ (1 : Int) = 0 by decide), hasElement_eq hc.1, zbd_some, bl_pos q7, if_neg (show ¬ (1 : Int) = 0 by decide), e1, zbd_some, sp, zbd_some, zrd_ok (a := 117 + 4 * d + 3) ⟨by omega, by rw [kk]; omega⟩, Int.toNat_natCast, hc1.2.2.2.2.2 o ho i hi, zwr_ok (a := 117 + 4 * d + 3) ⟨by omega, by rw [kk]; omega⟩, Int.toNat_natCast, hg]
          · rw [refuse_m, zbd_some, if_pos ((rfs_eq (fun d' hd' => by rw [tg _ _ (by omega), gh _ _ (by omega) (by omega) (by omega)])).trans q), isOp_m (by omega) mg, zbd_some, bl_pos q2, if_neg (show ¬ (1 : Int) = 0 by decide), x1 q6, zbd_some, if_neg (show ¬ (1 : Int) = 0 by decide), misElement_eq (by omega) mg.1, zbd_some, bl_pos q7, if_neg (show ¬ (1 : Int) = 0 by decide), e3, zbd_some, mat _ m3, zbd_some, zrd_ok (a := 181 + 6) ⟨by omega, by show _ < ((1960 : Nat) : Int); omega⟩, Int.toNat_natCast, show h3 (181 + 6) (196 * d + 49 * o + i) = tb o i from m3.2.2.2 o ho i hi, zwr_ok (a := 181 + 6) ⟨by omega, by show _ < ((1960 : Nat) : Int); omega⟩, Int.toNat_natCast]
          · intro c k x
            rw [stp_ne (by omega), k3 _ _ (by omega) (by omega), tg _ _ (by omega), gh _ _ (by omega) (by omega) (by omega)]
          · have := RepC_put (v := a5) hi hc1
            rw [hg] at this
            exact RepC_keep (fun i k hi => by rw [stp_ne (by omega), k3 _ _ (by omega) (by omega), tg _ _ (by omega)]) this
          · exact I5d_congr (fun c k x => by have := S5_out x; exact stp_ne (by omega)) i5
        · obtain ⟨x1, x0⟩ := mareElements_eq (F := F) (a := a3) (b := a4) (show d < 10 by omega) hw hm' ho
          refine ⟨-3, h, stp h 181 0 0, ?_, ?_, hI'⟩
          · rw [ce, zbd_some, if_pos (show (0 : Int) = 0 from rfl), drw_at hd, c1 q6, zbd_some, if_neg (show ¬ (1 : Int) = 0 by decide), hasElement_eq hc.1, zbd_some, bl_neg q7, if_pos (show (0 : Int) = 0 from rfl)]
          · rw [refuse_m, zbd_some, rfs_thrown, if_pos q, isOp_m (by omega) hm', zbd_some, bl_pos q2, if_neg (show ¬ (1 : Int) = 0 by decide), x1 q6, zbd_some, if_neg (show ¬ (1 : Int) = 0 by decide), misElement_eq (by omega) hm'.1, zbd_some, bl_neg q7, if_pos (show (0 : Int) = 0 from rfl)]
      · obtain ⟨x1, x0⟩ := mareElements_eq (F := F) (a := a3) (b := a4) (show d < 10 by omega) hw hm' ho
        refine ⟨-3, h, stp h 181 0 0, ?_, ?_, hI'⟩
        · rw [ce, zbd_some, if_pos (show (0 : Int) = 0 from rfl), drw_at hd, c0 q6, zbd_some, if_pos (show (0 : Int) = 0 from rfl)]
        · rw [refuse_m, zbd_some, rfs_thrown, if_pos q, isOp_m (by omega) hm', zbd_some, bl_pos q2, if_neg (show ¬ (1 : Int) = 0 by decide), x0 q6, zbd_some, if_pos (show (0 : Int) = 0 from rfl)]
    · refine ⟨-3, h, stp h 181 0 0, ?_, ?_, hI'⟩
      · rw [refuseOp_c hD hd q hc, if_neg q2, zbd_some, if_neg (show ¬ (-3 : Int) = 0 by decide)]
      · rw [refuse_m, zbd_some, rfs_thrown, if_pos q, isOp_m (by omega) hm', zbd_some, bl_neg q2, if_pos (show (0 : Int) = 0 from rfl)]
  · refine ⟨rfs h a1, h, stp h 181 0 0, ?_, ?_, hI'⟩
    · unfold fX11_refuseOperation
      rw [refuse_c hD, zbd_some, if_neg q, zbd_some, if_neg q]
    · rw [refuse_m, zbd_some, rfs_thrown, if_neg q]
