/-! quotient: the call -/
theorem ps_quotient {I6 : HF → Prop} {F : Nat} (hF : 6000 ≤ F) : PS_quotient F (InvP I4d I5d I6) := by
  intro h a1 a2 a3 hI _ _ _
  have hI' := Inv_thrown hI
  have hD : ∀ d, d < 8 → DR h d := fun d hd => I4d_get hI.2.2.2.1 hd
  unfold fX11_quotient fX12_quotient
  simp only [zjn, zpf, zgf]
  by_cases qt : 0 ≤ a3 ∧ a3 < 8
  · have rc : fX11_refuseSource F 0 a1 a3 h = some (rfs h a1, h) := by rw [refuseSource_c hD, if_pos qt]
    by_cases q : rfs h a1 = 0
    · obtain ⟨d, n, ar, tb, rfl, hd, hw, hc, hm⟩ := held hD q
      obtain ⟨t, rfl⟩ : ∃ t : Nat, a3 = (t : Int) := ⟨a3.toNat, by omega⟩
      have ht : t < 8 := by omega
      have hn := hw.1
      have hl := hw.2.1
      have qd : 0 ≤ (d : Int) ∧ (d : Int) < 8 := by omega
      have k95 : kl 95 = 877 := by decide +kernel
      have k96 : kl 96 = 7 := by decide +kernel
      have hlen := cg_len (tb := tb) (n := n) (ar := ar)
      obtain ⟨hG, p1, p2, p3, p4, p5⟩ := gather_eq (F := F) (A := 117 + 4 * d) (h := h) (by omega) (by omega) (kt_drw d hd) hw hc
      by_cases qk : 0 ≤ a2 ∧ a2 < (((cgL tb n ar).length : Nat) : Int)
      · obtain ⟨j, rfl⟩ : ∃ j : Nat, a2 = (j : Int) := ⟨a2.toNat, by omega⟩
        have hj : j < (cgL tb n ar).length := by omega
        obtain ⟨x, hx⟩ : ∃ x, (cgL tb n ar)[j]? = some x := ⟨_, List.getElem?_eq_getElem hj⟩
        obtain ⟨y1, y2, y3, y4⟩ := cgL_ok hn x (List.mem_of_getElem? hx)
        have hcg := agB_iff.mp y4
        have h6 : ∀ i, x.getD i 0 < 7 := fun i => by
          by_cases z : i < n
          · have := y2 i; omega
          · rw [List.getD_eq_getElem?_getD, List.getElem?_eq_none (by omega)]; decide
        have hx0 : x.getD 0 0 = 0 := by have := y2 0; omega
        have hs : lds n x < 2 ^ n := bts_lt n
        have hn1 : 1 ≤ bc (lds n x) n := bc_step ((lds_bit (show 0 < n by omega)).mpr hx0) n (by omega)
        have hbn := bc_le (x := lds n x) n
        -- the class
        have cG : RepC hG (117 + 4 * d) n ar tb := RepC_keep (fun i k hi => p5 _ _ (by omega) (by omega) (by omega)) hc
        obtain ⟨hL, l1, l2, l3⟩ := decode_eq (F := F) (A := 117 + 4 * d) (c := 94 + 2) (h := hG) (by omega) k96 y1 hn.2 h6 p2 cG.1
        have cL : RepC hL (117 + 4 * d) n ar tb := RepC_keep (fun i k hi => l3 _ _ (by omega)) cG
        obtain ⟨hM, n1, n2, n3, n4⟩ := numC_L (F := F) (k := fun x h => some (x, h)) hn.2 y1 y2 y3 n 0 F hL (by omega) (by omega) l2 (fun v hv => absurd hv (by omega)) (fun v hv => absurd hv (by omega))
        have hO : ∀ i, i < bc (lds n x) n → (lds n x).testBit ((hM 115 i).toNat) = true ∧ (hM 115 i).toNat < n ∧ bc (lds n x) ((hM 115 i).toNat) = i ∧ hM 115 i = (((hM 115 i).toNat : Nat) : Int) := fun i hi => by
          obtain ⟨a, b1, b2, b3⟩ := bc_surj n hi
          have := n3 a b1 b2
          rw [b3] at this
          rw [this, Int.toNat_natCast]
          exact ⟨b2, b1, b3, rfl⟩
        have hIm : IM hM (117 + 4 * d) 115 116 n (bc (lds n x) n) ar tb (fun i => (hM 115 i).toNat) (fun v => bc (lds n x) (x.getD v 0)) := ⟨RepC_keep (fun i k hi => n4 _ _ (by omega) (by omega)) cL, fun i hi => (hO i hi).2.2.2, n2⟩
        have hO' : ∀ i, i < bc (lds n x) n → (lds n x).testBit ((fun i => (hM 115 i).toNat) i) = true ∧ (fun i => (hM 115 i).toNat) i < n ∧ bc (lds n x) ((fun i => (hM 115 i).toNat) i) = i := fun i hi => ⟨(hO i hi).1, (hO i hi).2.1, (hO i hi).2.2.1⟩
        generalize (fun i => (hM 115 i).toNat) = olds at hIm hO'
        have Mh : ∀ c k, (c < 94 ∨ 116 < c) → hM c k = h c k := fun c k z => by rw [n4 _ _ (by omega) (by omega), l3 _ _ (by omega), p5 _ _ (by omega) (by omega) (by omega)]
        obtain ⟨hA, T, i1, i2, i3, i4⟩ := becomeImage_eq (F := F) (h := hM) (by omega) (show 9 < 117 + 4 * d by omega) (show 9 < 115 by decide) (show 9 < 116 by decide) (kt_drw d hd) (by decide +kernel) (by decide +kernel) hw (show 1 ≤ bc (lds n x) n ∧ bc (lds n x) n ≤ 7 by omega) (fun i hi => (hO' i hi).2.1) (by rw [Mh _ _ (by decide)]; exact I4d_8 hI.2.2.2.1) hIm
        have idx : ∀ o a b, o < ar.length → a < rwN (bc (lds n x) n) (ar.getD o 0) → b < clN (bc (lds n x) n) (ar.getD o 0) → ∃ a0 b0, a0 < rwN n (ar.getD o 0) ∧ b0 < clN n (ar.getD o 0) ∧ bc (lds n x) (x.getD a0 0) = a ∧ bc (lds n x) (x.getD b0 0) = b ∧ a0 < n ∧ b0 < n ∧ vl tb n ar o (olds a) (olds b) = vl tb n ar o a0 b0 := fun o a b ho ha hb => by
          obtain ⟨a0, b0, c1, c2, c3, c4, c5, c6⟩ := sub_idx (tb := tb) hw.2.2.1 hO' ho ha hb
          have hle := rw_le (n := n) (r := ar.getD o 0) hn.1
          obtain ⟨wa, wb⟩ := wi_lt c3
          have h2 := hw.2.2.1 o ho
          have ea : x.getD a0 0 = a0 := by
            by_cases z : ar.getD o 0 = 0
            · unfold rwN at c1
              rw [if_pos z] at c1
              obtain rfl : a0 = 0 := by omega
              exact hx0
            · exact (lds_bit (by omega)).mp (wa (by omega))
          have eb : x.getD b0 0 = b0 := by
            by_cases z : ar.getD o 0 = 2
            · exact (lds_bit (by omega)).mp (wb (by omega))
            · unfold clN at c2
              rw [if_neg z] at c2
              obtain rfl : b0 = 0 := by omega
              exact hx0
          exact ⟨a0, b0, c1, c2, by rw [ea]; exact c4, by rw [eb]; exact c5, by omega, by omega, c6⟩
        have hwT : WF (bc (lds n x) n) ar T := TG_WF (by omega) hl hw.2.2.1 i3 (fun o a b ho ha hb => by
          obtain ⟨a0, b0, c1, c2, c3, c4, c5, c6, c7⟩ := idx o a b ho ha hb
          have hv := (vl_eq hw ho c5 c6).2
          have hBv := y2 (vl tb n ar o a0 b0)
          unfold igF
          rw [c7]
          exact bc_step ((lds_bit (by omega)).mpr (ln_idem y3 hv)) n (by omega))
        have hIA : InvP I4d I5d I6 hA := Inv_while hI (fun c k z => by rw [i4 c k (by omega), Mh c k (by omega)])
        obtain ⟨g, g1, g2, g3, K⟩ := put_both (F := F) (t := t) (by omega) ht hIA hwT i2
        -- the reference
        have tg : ∀ c k, (c ≠ 181 ∨ k ≠ 0) → stp g 181 0 0 c k = g c k := fun c k x => stp_ne x
        have gh : ∀ c k, 184 ≤ c → c ≤ 187 → g c k = h c k := fun c k x y => by rw [g3 _ _ (by omega) (by omega) (by omega), i4 _ _ (by omega), Mh _ _ (by omega)]
        have mg : RepM (stp g 181 0 0) 184 185 186 187 d n ar tb := RepM_row hd hw (fun c q hq => by rw [tg _ _ (by omega), gh _ _ (by omega) (by omega)]) hm
        rcases findC_eq (F := F) (u := (j : Int)) hF (show d < 10 by omega) hw mg with ⟨hf, j', x', f1, f2, f3, f4, f5⟩ | ⟨hf, f1, _, _, _⟩
        · obtain rfl : j = j' := by omega
          obtain rfl : x = x' := by rw [hx] at f1; simpa using f1
          have mf : RepM hf 184 185 186 187 d n ar tb := RepM_row hd hw (fun c q hq => f5 _ _ (by omega) (by omega)) mg
          obtain ⟨hr1, u1, u2, u3⟩ := quo0_L (F := F) (u3 := (t : Int)) (k := fun (x99_4 : Int) (h : HF) => zbd (fX12_like F 181 (d : Int) x99_4 h) fun _ h => LX12_quotient_109 F 181 (d : Int) (t : Int) x99_4 (fun (x223_4 : Int) (h : HF) => zbd (fX12_keep F 181 (t : Int) h) fun _ h => zbd (fX12_copy F 181 8 (t : Int) h) fun _ h => some (x223_4, h)) F 0 h) hd hw y1 n 0 F hf (by omega) (by omega) mf f4 (fun j hj => absurd hj (by omega))
          have mr1 : RepM hr1 184 185 186 187 d n ar tb := RepM_row hd hw (fun c q hq => u3 _ _ (by omega)) mf
          obtain ⟨hr2, T0, v1, v2, v3⟩ := like_eq (F := F) (n' := bc (lds n x) n) (h := hr1) (by omega) hd hw (by omega) mr1
          have hQ : QH hr2 d n ar tb x := ⟨RepM_row hd hw (fun c q hq => v3 _ _ (by omega) (by omega) (by omega)) mr1, LN_keep (fun i => by rw [v3 _ _ (by omega) (by omega) (by omega), u3 _ _ (by omega)]) f4, fun j hj hb => by rw [v3 _ _ (by omega) (by omega) (by omega)]; exact u2 j hj hb⟩
          obtain ⟨hB, T1, w1, w2, w3, w4⟩ := quo1_L (F := F) (u3 := (t : Int)) (u4 := ((bc (lds n x) n : Nat) : Int)) (by omega) hd hw y1 y2 y3 hcg hn1 (k := fun (x223_4 : Int) (h : HF) => zbd (fX12_keep F 181 (t : Int) h) fun _ h => zbd (fX12_copy F 181 8 (t : Int) h) fun _ h => some (x223_4, h)) ar.length 0 F hr2 T0 (by omega) (by omega) hQ v2 Dn_0
          have hT1 : TG (bc (lds n x) n) ar T1 (igF tb n ar olds (fun v => bc (lds n x) (x.getD v 0))) := fun o a b ho ha hb => by
            obtain ⟨a0, b0, c1, c2, c3, c4, c5, c6, c7⟩ := idx o a b ho ha hb
            have : T1 o (ix (bc (lds n x) n) (ar.getD o 0) (bc (lds n x) (x.getD a0 0)) (bc (lds n x) (x.getD b0 0))) = ((bc (lds n x) (x.getD (vl tb n ar o a0 b0) 0) : Nat) : Int) := w3 o a0 b0 ho c1 c2 rfl (Or.inl ho)
            unfold igF
            rw [c7]
            rw [c3, c4] at this
            exact this
          have mB : RepM hB 184 185 186 187 8 (bc (lds n x) n) ar T := RepM_ext (TG_eq (by omega) hw.2.2.1 hT1 i3) w2
          obtain ⟨h3, h4, z1, z2, z3, z4, z5⟩ := K hB (fun c k z => by rw [w4 _ _ (by omega), v3 _ _ (by omega) (by omega) (by omega), u3 _ _ (by omega), f5 _ _ (by omega) (by omega), tg _ _ (by omega)]) mB
          refine ⟨((bc (lds n x) n : Nat) : Int), g, h4, ?_, ?_, z3⟩
          · rw [rc, zbd_some, if_pos q, drw_at hd, show fX2_gather F (0 + 94) (117 + 4 * d) h = _ from p1, zbd_some, show fX2_has F (0 + 94) (j : Int) hG = _ from has_eq p3, zbd_some, bl_pos qk, if_neg (by decide)]
            have ch : fX2_choose F (0 + 94) (j : Int) hG = some (0, hL) := by
              unfold fX2_choose
              rw [zrd_ok (a := 0 + 94 + 1) ⟨by omega, by rw [show kl (0 + 94 + 1) = 877 from k95]; omega⟩, Int.toNat_natCast, show hG (0 + 94 + 1) j = _ from p4 j x hx, show fX2_decode F (0 + 94) ((cdR x 0 0 n : Nat) : Int) (0 + 94 + 2) hG = _ from l1, zbd_some]
            rw [ch, zbd_some, drw_at hd, cL.1, show fX11_numberClasses F 0 (0 + 94 + 2) (n : Int) hL = some (((bc (lds n x) n : Nat) : Int), hM) from n1, zbd_some, drw_at hd]
            show zbd (fX0_becomeImage F 6 (117 + 4 * d) ((bc (lds n x) n : Nat) : Int) 115 116 hM) _ = _
            rw [i1, zbd_some, g1, zbd_some, show g (0 + 6) 0 = _ from g2.1]
          · rw [isDrawer_m, zbd_some, bl_pos qd, if_neg (show ¬ (1 : Int) = 0 by decide), isDrawer_m, zbd_some, bl_pos qt, if_neg (show ¬ (1 : Int) = 0 by decide), msz (by omega) mg, if_neg (by omega), if_neg (by omega), f3, zbd_some, if_neg (by decide)]
            refine u1.trans ?_
            show zbd (fX12_like F 181 (d : Int) ((bc (lds n x) n : Nat) : Int) hr1) _ = _
            rw [v1, zbd_some]
            refine w1.trans ?_
            show zbd (fX12_keep F 181 (t : Int) hB) _ = _
            rw [z1, zbd_some, z2, zbd_some]
        · omega
      · have tg : ∀ c k, (c ≠ 181 ∨ k ≠ 0) → stp hG 181 0 0 c k = hG c k := fun c k x => stp_ne x
        have mg : RepM (stp hG 181 0 0) 184 185 186 187 d n ar tb := RepM_row hd hw (fun c q hq => by rw [tg _ _ (by omega), p5 _ _ (by omega) (by omega) (by omega)]) hm
        have cl : ∀ X : RO, (zbd (fX11_refuseSource F 0 (d : Int) (t : Int) h) fun r1 h => if r1 = 0 then zrs (0 + 5) (d : Int) fun x2 => zbd (fX2_gather F (0 + 94) x2 h) fun _ h => zbd (fX2_has F (0 + 94) a2 h) fun r4 h => if r4 = 0 then some (-3, h) else X else some (r1, h)) = some (-3, hG) := fun X => by
          rw [rc, zbd_some, if_pos q, drw_at hd, show fX2_gather F (0 + 94) (117 + 4 * d) h = _ from p1, zbd_some, show fX2_has F (0 + 94) a2 hG = _ from has_eq p3, zbd_some, bl_neg qk, if_pos rfl]
        have c3 : (zbd (fX11_refuseSource F 0 (d : Int) (t : Int) h) fun r1 h => if r1 = 0 then zrs (0 + 5) (d : Int) fun x2 => zbd (fX2_gather F (0 + 94) x2 h) fun _ h => zbd (fX2_has F (0 + 94) a2 h) fun r4 h => if r4 = 0 then some (-3, h) else zbd (fX2_choose F (0 + 94) a2 h) fun _ h => zrs (0 + 5) (d : Int) fun x6 => zbd (fX11_numberClasses F 0 (0 + 94 + 2) (h x6 0) h) fun r8 h => zrs (0 + 5) (d : Int) fun x9 => zbd (fX0_becomeImage F (0 + 6) x9 r8 (0 + 115) (0 + 116) h) fun _ h => zbd (fX11_putDraft F 0 (t : Int) h) fun _ h => some (h (0 + 6) 0, h) else some (r1, h)) = some (-3, hG) := by
          rw [rc, zbd_some, if_pos q, drw_at hd, show fX2_gather F (0 + 94) (117 + 4 * d) h = _ from p1, zbd_some, show fX2_has F (0 + 94) a2 hG = _ from has_eq p3, zbd_some, bl_neg qk, if_pos rfl]
        by_cases q2 : a2 < 0
        · refine ⟨-3, hG, stp hG 181 0 0, c3, ?_, Inv_while hI (fun c k x => by rw [tg _ _ (by omega), p5 _ _ (by omega) (by omega) (by omega)])⟩
          rw [isDrawer_m, zbd_some, bl_pos qd, if_neg (show ¬ (1 : Int) = 0 by decide), isDrawer_m, zbd_some, bl_pos qt, if_neg (show ¬ (1 : Int) = 0 by decide), msz (by omega) mg, if_neg (by omega), if_pos q2]
        · rcases findC_eq (F := F) (u := a2) hF (show d < 10 by omega) hw mg with ⟨hf, j', x', f1, f2, f3, f4, f5⟩ | ⟨hf, f1, f2, f3, f4⟩
          · have : j' < (cgL tb n ar).length := by
              by_cases z : j' < (cgL tb n ar).length
              · exact z
              · rw [List.getElem?_eq_none (by omega)] at f1; exact absurd f1 (by simp)
            omega
          · refine ⟨-3, hG, hf, c3, ?_, Inv_while hI (fun c k x => by rw [f4 _ _ (by omega) (by omega), tg _ _ (by omega), p5 _ _ (by omega) (by omega) (by omega)])⟩
            rw [isDrawer_m, zbd_some, bl_pos qd, if_neg (show ¬ (1 : Int) = 0 by decide), isDrawer_m, zbd_some, bl_pos qt, if_neg (show ¬ (1 : Int) = 0 by decide), msz (by omega) mg, if_neg (by omega), if_neg q2, f2, zbd_some, if_pos rfl]
    · refine ⟨rfs h a1, h, stp h 181 0 0, ?_, ?_, hI'⟩
      · rw [rc, zbd_some, if_neg q]
      · unfold rfs at q ⊢
        by_cases qd : 0 ≤ a1 ∧ a1 < 8
        · rw [if_pos qd] at q ⊢
          obtain ⟨d, rfl⟩ : ∃ t : Nat, a1 = (t : Int) := ⟨a1.toNat, by omega⟩
          rw [Int.toNat_natCast] at q ⊢
          by_cases z : h 184 d = 0
          · rw [if_pos z, isDrawer_m, zbd_some, bl_pos qd, if_neg (show ¬ (1 : Int) = 0 by decide), isDrawer_m, zbd_some, bl_pos qt, if_neg (show ¬ (1 : Int) = 0 by decide), rdm3 (by omega), stp_ne (Or.inl (by decide)), if_pos z]
          · rw [if_neg z] at q; exact absurd rfl q
        · rw [if_neg qd, isDrawer_m, zbd_some, bl_neg qd, if_pos rfl]
  · refine ⟨-3, h, stp h 181 0 0, ?_, ?_, hI'⟩
    · rw [refuseSource_c hD, if_neg qt, zbd_some, if_neg (by decide)]
    · rw [isDrawer_m, zbd_some]
      by_cases qd : 0 ≤ a1 ∧ a1 < 8
      · rw [bl_pos qd, if_neg (show ¬ (1 : Int) = 0 by decide), isDrawer_m, zbd_some, bl_neg qt, if_pos rfl]
      · rw [bl_neg qd, if_pos rfl]
