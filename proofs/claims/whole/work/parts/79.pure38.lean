/-! sub: the call -/
theorem fdP_some {p : Nat → Bool} {k y : Nat} : ∀ (m b c : Nat), fdP p k b c m = some y → p y = true ∧ b ≤ y ∧ y < b + m
  | 0, b, c, e => by simp [fdP] at e
  | m + 1, b, c, e => by
    simp only [fdP] at e
    by_cases q : p b = true
    · rw [if_pos q] at e
      by_cases q2 : c = k
      · rw [if_pos q2] at e
        obtain rfl : b = y := by simpa using e
        exact ⟨q, Nat.le_refl _, by omega⟩
      · rw [if_neg q2] at e
        obtain ⟨h1, h2, h3⟩ := fdP_some m (b + 1) (c + 1) e
        exact ⟨h1, by omega, by omega⟩
    · rw [if_neg q] at e
      obtain ⟨h1, h2, h3⟩ := fdP_some m (b + 1) c e
      exact ⟨h1, by omega, by omega⟩
theorem bc_pos {s n : Nat} (hs : s < 2 ^ n) (h0 : s ≠ 0) : 1 ≤ bc s n := by
  refine Classical.byContradiction (fun z => h0 ?_)
  apply bit_ext
  intro j
  rw [Nat.zero_testBit]
  refine ⟨fun q => ?_, fun q => absurd q (by decide)⟩
  have := bc_step q n (bit_lt hs q)
  omega
theorem refuseSource_c {F : Nat} {x t : Int} {h : HF} (hD : ∀ d, d < 8 → DR h d) : fX11_refuseSource F 0 x t h = some (if 0 ≤ t ∧ t < 8 then rfs h x else -3, h) := by
  unfold fX11_refuseSource
  simp only [zjn]
  rw [isDrawer_c, zbd_some]
  by_cases q : 0 ≤ t ∧ t < 8
  · rw [bl_pos q, if_neg (by decide), if_pos q, refuse_c hD, zbd_some]
  · rw [bl_neg q, if_pos rfl, if_neg q]
theorem sub_idx {n s : Nat} {ar : List Nat} {tb : Nat → Nat → Int} {olds : Nat → Nat} (h2 : ∀ o, o < ar.length → ar.getD o 0 ≤ 2) (hO : ∀ i, i < bc s n → s.testBit (olds i) = true ∧ olds i < n ∧ bc s (olds i) = i) {o a b : Nat} (ho : o < ar.length) (ha : a < rwN (bc s n) (ar.getD o 0)) (hb : b < clN (bc s n) (ar.getD o 0)) : ∃ a0 b0, a0 < rwN n (ar.getD o 0) ∧ b0 < clN n (ar.getD o 0) ∧ wi (ar.getD o 0) s a0 b0 = true ∧ bc s a0 = a ∧ bc s b0 = b ∧ vl tb n ar o (olds a) (olds b) = vl tb n ar o a0 b0 := by
  have hr := h2 o ho
  refine ⟨if ar.getD o 0 = 0 then 0 else olds a, if ar.getD o 0 = 2 then olds b else 0, ?_, ?_, ?_, ?_, ?_, vl_congr (fun z => by rw [if_neg (by omega)]) (fun z => by rw [if_pos (by omega)])⟩
  · unfold rwN at ha ⊢
    by_cases q : ar.getD o 0 = 0
    · rw [if_pos q, if_pos q]; omega
    · rw [if_neg q] at ha
      rw [if_neg q, if_neg q]; exact (hO a ha).2.1
  · unfold clN at hb ⊢
    by_cases q : ar.getD o 0 = 2
    · rw [if_pos q] at hb
      rw [if_pos q, if_pos q]; exact (hO b hb).2.1
    · rw [if_neg q, if_neg q]; omega
  · unfold wi
    unfold rwN at ha
    unfold clN at hb
    simp only [Bool.and_eq_true, Bool.or_eq_true, decide_eq_true_eq]
    constructor
    · by_cases q : ar.getD o 0 = 0
      · exact Or.inl (by omega)
      · rw [if_neg q] at ha
        rw [if_neg q]; exact Or.inr (hO a ha).1
    · by_cases q : ar.getD o 0 = 2
      · rw [if_pos q] at hb
        rw [if_pos q]; exact Or.inr (hO b hb).1
      · exact Or.inl (by omega)
  · unfold rwN at ha
    by_cases q : ar.getD o 0 = 0
    · rw [if_pos q] at ha
      rw [if_pos q]
      show 0 = a
      omega
    · rw [if_neg q] at ha
      rw [if_neg q]; exact (hO a ha).2.2
  · unfold clN at hb
    by_cases q : ar.getD o 0 = 2
    · rw [if_pos q] at hb
      rw [if_pos q]; exact (hO b hb).2.2
    · rw [if_neg q] at hb
      rw [if_neg q]
      show 0 = b
      omega
theorem ps_sub {I6 : HF → Prop} {F : Nat} (hF : 200 ≤ F) : PS_sub F (InvP I4d I5d I6) := by
  intro h a1 a2 a3 hI _ _ _
  have hI' := Inv_thrown hI
  have hD : ∀ d, d < 8 → DR h d := fun d hd => I4d_get hI.2.2.2.1 hd
  unfold fX11_sub fX12_sub
  simp only [zjn, zpf, zgf]
  by_cases qt : 0 ≤ a3 ∧ a3 < 8
  · have rc : fX11_refuseSource F 0 a1 a3 h = some (rfs h a1, h) := by rw [refuseSource_c hD, if_pos qt]
    by_cases q : rfs h a1 = 0
    · obtain ⟨d, n, ar, tb, rfl, hd, hw, hc, hm⟩ := held hD q
      obtain ⟨t, rfl⟩ : ∃ t : Nat, a3 = (t : Int) := ⟨a3.toNat, by omega⟩
      have ht : t < 8 := by omega
      have hm' := RepM_thrown hm
      have hn := hw.1
      have h7 := pw_7 hn.2
      have hl := hw.2.1
      have qd : 0 ≤ (d : Int) ∧ (d : Int) < 8 := by omega
      cases qp : ptO tb n ar a2 with
      | none =>
        refine ⟨-3, h, stp h 181 0 0, ?_, ?_, hI'⟩
        · rw [rc, zbd_some, if_pos q, drw_at hd, partBits_eq (kt_drw d hd) hw hc hF, zbd_some, qp]
          rfl
        · rw [isDrawer_m, zbd_some, bl_pos qd, if_neg (show ¬ (1 : Int) = 0 by decide), isDrawer_m, zbd_some, bl_pos qt, if_neg (show ¬ (1 : Int) = 0 by decide), msz (by omega) hm', if_neg (by omega)]
          by_cases q2 : a2 < 0
          · rw [if_pos q2, if_pos trivial]
          · rw [if_neg q2, partOf_eq (by omega) hw hm' hF (by omega), zbd_some, qp]
            rfl
      | some s =>
        have q2 : ¬ a2 < 0 := fun z => by
          unfold ptO at qp
          rw [if_pos z] at qp
          exact absurd qp (by simp)
        have qf : fdP (clB tb n ar) a2.toNat 1 0 (2 ^ n - 1) = some s := by
          unfold ptO at qp
          rw [if_neg q2] at qp
          exact qp
        obtain ⟨s1, s2, s3⟩ := fdP_some _ _ _ qf
        have hcl := clB_iff.mp s1
        have hs : s < 2 ^ n := by omega
        have hn1 := bc_pos hs (by omega)
        have hbn := bc_le (x := s) n
        -- the class
        obtain ⟨hM, n1, n2, n3, n4⟩ := numM_L (F := F) (k := fun x h => some (x, h)) hn.2 hs n 0 F h (by omega) (by omega) (fun v hv => absurd hv (by omega)) (fun v hv => absurd hv (by omega))
        have hO : ∀ i, i < bc s n → s.testBit ((hM 115 i).toNat) = true ∧ (hM 115 i).toNat < n ∧ bc s ((hM 115 i).toNat) = i ∧ hM 115 i = (((hM 115 i).toNat : Nat) : Int) := fun i hi => by
          obtain ⟨a, b1, b2, b3⟩ := bc_surj n hi
          have := n3 a b1 b2
          rw [b3] at this
          rw [this, Int.toNat_natCast]
          exact ⟨b2, b1, b3, rfl⟩
        have hIm : IM hM (117 + 4 * d) 115 116 n (bc s n) ar tb (fun i => (hM 115 i).toNat) (bc s) := ⟨RepC_keep (fun i k hi => n4 _ _ (by omega) (by omega)) hc, fun i hi => (hO i hi).2.2.2, n2⟩
        have hO' : ∀ i, i < bc s n → s.testBit ((fun i => (hM 115 i).toNat) i) = true ∧ (fun i => (hM 115 i).toNat) i < n ∧ bc s ((fun i => (hM 115 i).toNat) i) = i := fun i hi => ⟨(hO i hi).1, (hO i hi).2.1, (hO i hi).2.2.1⟩
        generalize (fun i => (hM 115 i).toNat) = olds at hIm hO'
        obtain ⟨hA, T, i1, i2, i3, i4⟩ := becomeImage_eq (F := F) (h := hM) hF (show 9 < 117 + 4 * d by omega) (show 9 < 115 by decide) (show 9 < 116 by decide) (kt_drw d hd) (by decide +kernel) (by decide +kernel) hw (show 1 ≤ bc s n ∧ bc s n ≤ 7 by omega) (fun i hi => (hO' i hi).2.1) (by rw [n4 _ _ (by decide) (by decide)]; exact I4d_8 hI.2.2.2.1) hIm
        have hwT : WF (bc s n) ar T := TG_WF (by omega) hl hw.2.2.1 i3 (fun o a b ho ha hb => by
          obtain ⟨a0, b0, c1, c2, c3, c4, c5, c6⟩ := sub_idx (tb := tb) hw.2.2.1 hO' ho ha hb
          have hle := rw_le (n := n) (r := ar.getD o 0) hn.1
          have := (vl_eq hw ho (show a0 < n by omega) (show b0 < n by omega)).2
          unfold igF
          rw [c6]
          exact bc_step (hcl o a0 b0 ho c1 c2 c3) n (by omega))
        have hIA : InvP I4d I5d I6 hA := Inv_while hI (fun c k x => by rw [i4 c k (by omega), n4 c k (by omega) (by omega)])
        obtain ⟨g, g1, g2, g3, K⟩ := put_both (t := t) hF ht hIA hwT i2
        -- the reference
        have tg : ∀ c k, (c ≠ 181 ∨ k ≠ 0) → stp g 181 0 0 c k = g c k := fun c k x => stp_ne x
        have gh : ∀ c k, 184 ≤ c → c ≤ 187 → g c k = h c k := fun c k x y => by rw [g3 _ _ (by omega) (by omega) (by omega), i4 _ _ (by omega), n4 _ _ (by omega) (by omega)]
        have mg : RepM (stp g 181 0 0) 184 185 186 187 d n ar tb := RepM_keep (fun k => ⟨by rw [tg _ _ (by omega), gh _ _ (by omega) (by omega)], by rw [tg _ _ (by omega), gh _ _ (by omega) (by omega)], by rw [tg _ _ (by omega), gh _ _ (by omega) (by omega)], by rw [tg _ _ (by omega), gh _ _ (by omega) (by omega)]⟩) hm
        obtain ⟨hr1, u1, u2, u3⟩ := sub0_L (F := F) (u3 := (t : Int)) (k := fun (x107_4 : Int) (x107_5 : Int) (h : HF) => zbd (fX12_like F 181 (d : Int) x107_5 h) fun _ h => LX12_sub_117 F 181 (d : Int) (t : Int) x107_4 x107_5 (fun (x272_5 : Int) (h : HF) => zbd (fX12_keep F 181 (t : Int) h) fun _ h => zbd (fX12_copy F 181 8 (t : Int) h) fun _ h => some (x272_5, h)) F 0 h) hd hw hs n 0 F (stp g 181 0 0) (by omega) (by omega) mg (fun j hj => absurd hj (by omega))
        have mg1 : RepM hr1 184 185 186 187 d n ar tb := RepM_keep (fun k => ⟨u3 _ _ (by omega), u3 _ _ (by omega), u3 _ _ (by omega), u3 _ _ (by omega)⟩) mg
        obtain ⟨hr2, T0, v1, v2, v3⟩ := like_eq (F := F) (n' := bc s n) (h := hr1) hF hd hw (by omega) mg1
        have hS : SM hr2 d n s ar tb := ⟨by
          obtain ⟨b1, b2, b3, b4⟩ := mg1
          refine ⟨by rw [v3 _ _ (by omega) (by omega) (by omega)]; exact b1, by rw [v3 _ _ (by omega) (by omega) (by omega)]; exact b2, fun o ho => by rw [v3 _ _ (by omega) (by omega) (by omega)]; exact b3 o ho, fun o ho k' hk' => ?_⟩
          have := pw_le hn.2 (hw.2.2.1 o ho)
          rw [v3 _ _ (by omega) (by omega) (by omega)]; exact b4 o ho k' hk', fun j hj hb => by rw [v3 _ _ (by omega) (by omega) (by omega)]; exact u2 j hj hb⟩
        obtain ⟨hB, T1, w1, w2, w3, w4⟩ := sub1_L (F := F) (u3 := (t : Int)) (u5 := ((bc s n : Nat) : Int)) (by omega) hd hw hs hcl hn1 (k := fun (x272_5 : Int) (h : HF) => zbd (fX12_keep F 181 (t : Int) h) fun _ h => zbd (fX12_copy F 181 8 (t : Int) h) fun _ h => some (x272_5, h)) ar.length 0 F hr2 T0 (by omega) (by omega) hS v2 Dn_0
        have hT1 : TG (bc s n) ar T1 (igF tb n ar olds (bc s)) := fun o a b ho ha hb => by
          obtain ⟨a0, b0, c1, c2, c3, c4, c5, c6⟩ := sub_idx (tb := tb) hw.2.2.1 hO' ho ha hb
          have : T1 o (ix (bc s n) (ar.getD o 0) (bc s a0) (bc s b0)) = ((bc s (vl tb n ar o a0 b0) : Nat) : Int) := w3 o a0 b0 ho c1 c2 c3 (Or.inl ho)
          unfold igF
          rw [c6]
          rw [c4, c5] at this
          exact this
        have mB : RepM hB 184 185 186 187 8 (bc s n) ar T := RepM_ext (TG_eq (by omega) hw.2.2.1 hT1 i3) w2
        obtain ⟨h3, h4, z1, z2, z3, z4, z5⟩ := K hB (fun c k x => by rw [w4 _ _ (by omega), v3 _ _ (by omega) (by omega) (by omega), u3 _ _ (by omega), tg _ _ (by omega)]) mB
        refine ⟨((bc s n : Nat) : Int), g, h4, ?_, ?_, z3⟩
        · rw [rc, zbd_some, if_pos q, drw_at hd, partBits_eq (kt_drw d hd) hw hc hF, zbd_some, qp]
          show (if (s : Int) = -1 then _ else _) = _
          rw [if_neg (by omega), drw_at hd, hc.1, show fX11_numberMembers F 0 (ptI (some s)) (n : Int) h = some (((bc s n : Nat) : Int), hM) from n1, zbd_some, drw_at hd]
          show zbd (fX0_becomeImage F 6 (117 + 4 * d) ((bc s n : Nat) : Int) 115 116 hM) _ = _
          rw [i1, zbd_some, g1, zbd_some, show g (0 + 6) 0 = _ from g2.1]
        · rw [isDrawer_m, zbd_some, bl_pos qd, if_neg (show ¬ (1 : Int) = 0 by decide), isDrawer_m, zbd_some, bl_pos qt, if_neg (show ¬ (1 : Int) = 0 by decide), msz (by omega) mg, if_neg (by omega), if_neg q2, partOf_eq (by omega) hw mg hF (by omega), zbd_some, qp]
          show (if (s : Int) = -1 then _ else _) = _
          rw [if_neg (by omega)]
          refine u1.trans ?_
          show zbd (fX12_like F 181 (d : Int) ((bc s n : Nat) : Int) hr1) _ = _
          rw [v1, zbd_some]
          refine w1.trans ?_
          show zbd (fX12_keep F 181 (t : Int) hB) _ = _
          rw [z1, zbd_some, z2, zbd_some]
    · refine ⟨rfs h a1, h, stp h 181 0 0, ?_, ?_, hI'⟩
      · rw [rc, zbd_some, if_neg q]
      · unfold rfs at q ⊢
        by_cases qd : 0 ≤ a1 ∧ a1 < 8
        · rw [if_pos qd] at q ⊢
          obtain ⟨d, rfl⟩ : ∃ t : Nat, a1 = (t : Int) := ⟨a1.toNat, by omega⟩
          rw [Int.toNat_natCast] at q ⊢
          by_cases z : h 184 d = 0
          · rw [if_pos z, isDrawer_m, zbd_some, bl_pos qd, if_neg (show ¬ (1 : Int) = 0 by decide), isDrawer_m, zbd_some, bl_pos qt, if_neg (show ¬ (1 : Int) = 0 by decide), rdm3 (by omega), stp_ne (Or.inl (by decide)), if_pos z]
          · rw [if_neg z] at q; exact absurd rfl q
        · rw [if_neg qd, isDrawer_m, zbd_some, bl_neg qd, if_pos rfl]
  · refine ⟨-3, h, stp h 181 0 0, ?_, ?_, hI'⟩
    · rw [refuseSource_c hD, if_neg qt, zbd_some, if_neg (by decide)]
    · rw [isDrawer_m, zbd_some]
      by_cases qd : 0 ≤ a1 ∧ a1 < 8
      · rw [bl_pos qd, if_neg (show ¬ (1 : Int) = 0 by decide), isDrawer_m, zbd_some, bl_neg qt, if_pos rfl]
      · rw [bl_neg qd, if_pos rfl]
