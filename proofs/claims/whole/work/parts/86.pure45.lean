/-! congruence: the call -/
theorem has_eq {F : Nat} {k : Int} {m : Nat} {h : HF} (e : h 94 1 = (m : Int)) : fX2_has F 94 k h = some (bl (0 ≤ k ∧ k < (m : Int)), h) := by
  unfold fX2_has
  simp only [zjn_eq, zgf]
  by_cases q : k < 0
  · rw [if_pos q, bl_neg (by omega)]; rfl
  · rw [if_neg q, e]
    by_cases q1 : k < (m : Int)
    · rw [if_pos q1, bl_pos (by omega)]; rfl
    · rw [if_neg q1, bl_neg (by omega)]; rfl
theorem cg_len {tb : Nat → Nat → Int} {n : Nat} {ar : List Nat} : (cgL tb n ar).length ≤ 877 := by
  have h1 := List.length_filter_le (agB tb n ar) (sq (nxC (n - 1)) 877 (List.replicate n 0))
  have h2 : ∀ (nx : List Nat → Option (List Nat)) (m : Nat) (l : List Nat), (sq nx m l).length ≤ m := by
    intro nx m
    induction m with
    | zero => intro l; exact Nat.le_refl _
    | succ m ih =>
      intro l
      simp only [sq, List.length_cons]
      cases nx l with
      | none => simp
      | some l' => have := ih l'; show (sq nx m l').length + 1 ≤ m + 1; omega
  have := h2 (nxC (n - 1)) 877 (List.replicate n 0)
  unfold cgL
  omega
theorem ps_congruence {I6 : HF → Prop} {F : Nat} (hF : 6000 ≤ F) : PS_congruence F (InvP I4d I5d I6) := by
  intro h a1 a2 hI _ _
  have hI' := Inv_thrown hI
  have hD : ∀ d, d < 8 → DR h d := fun d hd => I4d_get hI.2.2.2.1 hd
  unfold fX11_congruence fX12_congruence
  simp only [zjn, zpf, zgf]
  by_cases q : rfs h a1 = 0
  · obtain ⟨d, n, ar, tb, rfl, hd, hw, hc, hm⟩ := held hD q
    have hn := hw.1
    have k95 : kl 95 = 877 := by decide +kernel
    have hlen := cg_len (tb := tb) (n := n) (ar := ar)
    obtain ⟨g, g1, g2, g3, g4, g5⟩ := gather_eq (F := F) (A := 117 + 4 * d) (h := h) (by omega) (by omega) (kt_drw d hd) hw hc
    have tg : ∀ c k, (c ≠ 181 ∨ k ≠ 0) → stp g 181 0 0 c k = g c k := fun c k x => stp_ne x
    have mg : RepM (stp g 181 0 0) 184 185 186 187 d n ar tb := RepM_row hd hw (fun c q hq => by rw [tg _ _ (by omega), g5 _ _ (by omega) (by omega) (by omega)]) hm
    have rg : rfs (stp g 181 0 0) (d : Int) = 0 := (rfs_eq (fun d' hd' => by rw [tg _ _ (by omega), g5 _ _ (by omega) (by omega) (by omega)])).trans q
    have cls : ∀ r, (if a2 = -1 then some (g 94 1, g) else zbd (fX2_has F 94 a2 g) fun r5 h => if r5 = 0 then some (-3, h) else zrd h (94 + 1) a2 fun x6 => some (x6, h)) = some (r, g) → (zbd (fX11_refuseDrawer F 0 (d : Int) h) fun r1 h => if r1 = 0 then zrs (0 + 5) (d : Int) fun x2 => zbd (fX2_gather F (0 + 94) x2 h) fun _ h => if a2 = -1 then some (h (0 + 94) 1, h) else zbd (fX2_has F (0 + 94) a2 h) fun r5 h => if r5 = 0 then some (-3, h) else zrd h (0 + 94 + 1) a2 fun x6 => some (x6, h) else some (r1, h)) = some (r, g) := fun r e => by
      rw [refuse_c hD, zbd_some, if_pos q, drw_at hd, show fX2_gather F (0 + 94) (117 + 4 * d) h = _ from g1, zbd_some]
      exact e
    have fin : ∀ h', (∀ c' i', c' ≠ 207 → (c' ≠ 181 ∨ i' ≠ 43) → h' c' i' = stp g 181 0 0 c' i') → InvP I4d I5d I6 h' := fun h' e => Inv_while hI (fun c k x => by rw [e _ _ (by omega) (by omega), tg _ _ (by omega), g5 _ _ (by omega) (by omega) (by omega)])
    by_cases qk : a2 < -1
    · refine ⟨-3, g, stp g 181 0 0, cls _ ?_, ?_, fin _ (fun _ _ _ _ => rfl)⟩
      · rw [if_neg (by omega), has_eq g3, zbd_some, bl_neg (by omega), if_pos rfl]
      · rw [refuse_m, zbd_some, rg, if_pos rfl, if_pos qk]
    · rcases findC_eq (F := F) (u := a2) hF (show d < 10 by omega) hw mg with ⟨h', j, x, x1, x2, x3, x4, x5⟩ | ⟨h', x1, x2, x3, x4⟩
      · obtain ⟨y1, y2, y3, y4⟩ := cgL_ok hn x (List.mem_of_getElem? x1)
        have hj : j < (cgL tb n ar).length := by
          by_cases z : j < (cgL tb n ar).length
          · exact z
          · rw [List.getElem?_eq_none (by omega)] at x1; exact absurd x1 (by simp)
        refine ⟨((cdR x 0 0 n : Nat) : Int), g, h', cls _ ?_, ?_, fin _ x5⟩
        · rw [if_neg (by omega), has_eq g3, zbd_some, bl_pos (by omega), if_neg (by decide), x2, zrd_ok (a := 94 + 1) ⟨by omega, by rw [show kl (94 + 1) = 877 from k95]; omega⟩, Int.toNat_natCast, show g (94 + 1) j = _ from g4 j x x1]
        · have mg' : RepM h' 184 185 186 187 d n ar tb := RepM_row hd hw (fun c q hq => x5 _ _ (by omega) (by omega)) mg
          rw [refuse_m, zbd_some, rg, if_pos rfl, if_neg qk, x3, zbd_some, if_neg (by decide), msz (by omega) mg', show fX12_told F 181 (181 + 26) (n : Int) h' = _ from told_eq (F := F) (by omega) klm26 x4 y1 hn.2 (fun i hi => by have := y2 i; omega), zbd_some]
      · refine ⟨if a2 = -1 then (((cgL tb n ar).length : Nat) : Int) else -3, g, h', cls _ ?_, ?_, fin _ x4⟩
        · by_cases qe : a2 = -1
          · rw [if_pos qe, if_pos qe, g3]
          · rw [if_neg qe, if_neg qe, has_eq g3, zbd_some, bl_neg (by omega), if_pos rfl]
        · rw [refuse_m, zbd_some, rg, if_pos rfl, if_neg qk, x2, zbd_some, if_pos rfl]
          by_cases qe : a2 = -1
          · rw [if_pos qe, if_pos qe, x3]
          · rw [if_neg qe, if_neg qe]
  · refine ⟨rfs h a1, h, stp h 181 0 0, ?_, ?_, hI'⟩
    · rw [refuse_c hD, zbd_some, if_neg q]
    · rw [refuse_m, zbd_some, rfs_thrown, if_neg q]
