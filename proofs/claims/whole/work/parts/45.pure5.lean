/-! cell -/
theorem RepM_keep {h h' : HF} {cs co ca cc d n : Nat} {ar : List Nat} {tb : Nat → Nat → Int} (e : ∀ k, h' cs k = h cs k ∧ h' co k = h co k ∧ h' ca k = h ca k ∧ h' cc k = h cc k) (hr : RepM h cs co ca cc d n ar tb) : RepM h' cs co ca cc d n ar tb := ⟨by rw [(e _).1]; exact hr.1, by rw [(e _).2.1]; exact hr.2.1, fun o ho => by rw [(e _).2.2.1]; exact hr.2.2.1 o ho, fun o ho k hk => by rw [(e _).2.2.2]; exact hr.2.2.2 o ho k hk⟩
theorem RepM_thrown {h : HF} {d n : Nat} {ar : List Nat} {tb : Nat → Nat → Int} (hr : RepM h 184 185 186 187 d n ar tb) : RepM (stp h 181 0 0) 184 185 186 187 d n ar tb := RepM_keep (fun k => ⟨stp_ne (Or.inl (by decide)), stp_ne (Or.inl (by decide)), stp_ne (Or.inl (by decide)), stp_ne (Or.inl (by decide))⟩) hr
theorem rfs_thrown {h : HF} {x : Int} : rfs (stp h 181 0 0) x = rfs h x := by unfold rfs; rw [stp_ne (Or.inl (by decide))]
/-- a drawer that isn't refused holds an algebra -/
theorem held {h : HF} {x : Int} (hD : ∀ d, d < 8 → DR h d) (q : rfs h x = 0) : ∃ (d n : Nat) (ar : List Nat) (tb : Nat → Nat → Int), x = (d : Int) ∧ d < 8 ∧ WF n ar tb ∧ RepC h (117 + 4 * d) n ar tb ∧ RepM h 184 185 186 187 d n ar tb := by
  unfold rfs at q
  by_cases q1 : 0 ≤ x ∧ x < 8
  · rw [if_pos q1] at q
    by_cases q2 : h 184 x.toNat = 0
    · rw [if_pos q2] at q; exact absurd q (by decide)
    · rcases hD x.toNat (by omega) with z | ⟨n, ar, tb, hw, hc, hm⟩
      · exact absurd z.2.2.2.2 q2
      · exact ⟨x.toNat, n, ar, tb, by omega, by omega, hw, hc, hm⟩
  · rw [if_neg q1] at q; exact absurd q (by decide)
theorem drw_at {d : Nat} (hd : d < 8) {f : Nat → RO} : zrs (0 + 5) (d : Int) f = f (117 + 4 * d) := by rw [zrs_ok (a := 0 + 5) ⟨by omega, by show _ < ((8 : Nat) : Int); omega⟩, zsa_5, Int.toNat_natCast]
theorem refuseOp_c {F d n : Nat} {y : Int} {ar : List Nat} {tb : Nat → Nat → Int} {h : HF} (hD : ∀ d, d < 8 → DR h d) (hd : d < 8) (q : rfs h (d : Int) = 0) (hc : RepC h (117 + 4 * d) n ar tb) : fX11_refuseOperation F 0 (d : Int) y h = some (if 0 ≤ y ∧ y < (ar.length : Int) then 0 else -3, h) := by
  unfold fX11_refuseOperation
  rw [refuse_c hD, zbd_some, if_pos q]
  simp only [zjn]
  by_cases q0 : y < 0
  · rw [if_pos q0, if_neg (by omega)]
  · rw [if_neg q0, drw_at hd]
    simp only [zgf]
    rw [hc.2.1]
    by_cases q1 : y < (ar.length : Int)
    · rw [if_pos q1, if_pos ⟨by omega, q1⟩]
    · rw [if_neg q1, if_neg (by omega)]
theorem isOp_m {F d n : Nat} {y : Int} {ar : List Nat} {tb : Nat → Nat → Int} {h : HF} (hd : d < 10) (hm : RepM h 184 185 186 187 d n ar tb) : fX12_isOp F 181 (d : Int) y h = some (bl (0 ≤ y ∧ y < (ar.length : Int)), h) := by
  unfold fX12_isOp
  simp only [zjn]
  rw [zrd_ok (a := 181 + 4) ⟨by omega, by show _ < ((10 : Nat) : Int); omega⟩, Int.toNat_natCast, show h (181 + 4) d = _ from hm.2.1]
  by_cases q : y < 0
  · rw [if_pos q, bl_neg (by omega)]; rfl
  · rw [if_neg q]
    by_cases q1 : y < (ar.length : Int)
    · rw [if_pos q1, bl_pos (by omega)]; rfl
    · rw [if_neg q1, bl_neg (by omega)]; rfl
theorem ps_cell {I5 I6 : HF → Prop} {F : Nat} : PS_cell F (InvP I4d I5 I6) := by
  intro h a1 a2 a3 a4 a5 hI _ _ _ _ _
  have hI' := Inv_thrown hI
  have hD : ∀ d, d < 8 → DR h d := fun d hd => I4d_get hI.2.2.2.1 hd
  by_cases q : rfs h a1 = 0
  · obtain ⟨d, n, ar, tb, rfl, hd, hw, hc, hm⟩ := held hD q
    have hm' := RepM_thrown hm
    suffices hs : ∃ r, fX11_cell F 0 (d : Int) a2 a3 a4 a5 h = some (r, h) ∧ fX12_cell F 181 (d : Int) a2 a3 a4 a5 h = some (r, stp h 181 0 0) by
      obtain ⟨r, e1, e2⟩ := hs
      exact ⟨r, h, _, e1, e2, hI'⟩
    unfold fX11_cell fX12_cell
    simp only [zjn, zpf]
    rw [refuseOp_c hD hd q hc, zbd_some]
    rw [refuse_m, rfs_thrown, zbd_some, if_pos q, isOp_m (by omega) hm', zbd_some]
    by_cases q2 : 0 ≤ a2 ∧ a2 < (ar.length : Int)
    · obtain ⟨o, rfl⟩ : ∃ o : Nat, a2 = (o : Int) := ⟨a2.toNat, by omega⟩
      have ho : o < ar.length := by omega
      rw [if_pos q2, if_pos (show (0 : Int) = 0 from rfl), bl_pos q2, if_neg (show ¬ (1 : Int) = 0 by decide)]
      by_cases q3 : a3 < 0
      · rw [if_pos q3, if_pos q3]
        exact ⟨_, rfl, rfl⟩
      · rw [if_neg q3, if_neg q3]
        by_cases q4 : 2 < a3
        · rw [if_pos q4, if_pos q4]
          exact ⟨_, rfl, rfl⟩
        · obtain ⟨-, k1, -, -, -, -⟩ := zl_0 (117 + 4 * d) (kt_drw d hd)
          have hl := hw.2.1
          rw [if_neg q4, drw_at hd, zrd_ok (a := 117 + 4 * d + 1) ⟨by omega, by rw [k1]; omega⟩, Int.toNat_natCast, hc.2.2.2.1 o ho]
          rw [if_neg q4, marity_eq (by omega) hw hm' ho, zbd_some]
          by_cases q5 : ((ar.getD o 0 : Nat) : Int) = a3
          · rw [if_pos q5, if_pos q5]
            obtain ⟨c1, c0⟩ := hasCell_eq (F := F) (a := a4) (b := a5) (kt_drw d hd) hw hc ho
            obtain ⟨m1, m0⟩ := mareElements_eq (F := F) (a := a4) (b := a5) (show d < 10 by omega) hw hm' ho
            by_cases q6 : fitA n (ar.getD o 0) a4 a5
            · rw [c1 q6, zbd_some, if_neg (show ¬ (1 : Int) = 0 by decide), value_eq (kt_drw d hd) hw hc ho q6.1 q6.2, zbd_some]
              rw [m1 q6, zbd_some, if_neg (show ¬ (1 : Int) = 0 by decide), mvalue_eq (by omega) hw hm' ho q6.1 q6.2, zbd_some]
              exact ⟨_, rfl, rfl⟩
            · rw [c0 q6, zbd_some, if_pos (show (0 : Int) = 0 from rfl)]
              rw [m0 q6, zbd_some, if_pos (show (0 : Int) = 0 from rfl)]
              exact ⟨_, rfl, rfl⟩
          · rw [if_neg q5, if_neg q5]
            exact ⟨_, rfl, rfl⟩
    · rw [if_neg q2, if_neg (show ¬ (-3 : Int) = 0 by decide), bl_neg q2, if_pos (show (0 : Int) = 0 from rfl)]
      exact ⟨_, rfl, rfl⟩
  · refine ⟨rfs h a1, h, stp h 181 0 0, ?_, ?_, hI'⟩
    · unfold fX11_cell fX11_refuseOperation
      rw [refuse_c hD, zbd_some, if_neg q, zbd_some, if_neg q]
    · unfold fX12_cell
      simp only [zpf]
      rw [refuse_m, zbd_some, rfs_thrown, if_neg q]
