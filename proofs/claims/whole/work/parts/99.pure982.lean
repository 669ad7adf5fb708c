/-! least, the call -/
theorem turns_m {F d n : Nat} {ar : List Nat} {T : Nat → Nat → Int} {h : HF} (hF : 200 ≤ F) (hd : d < 10) (hw : WF n ar T) (hr : RepM h 184 185 186 187 d n ar T) : ∃ h', fX12_turns F 181 (d : Int) h = some ((((PL n).countP (fun x => decide (lnL T n ar x = lnL T n ar (List.range n))) : Nat) : Int), h') ∧ ∀ c i, c ≠ 210 → (c ≠ 181 ∨ (i ≠ 43 ∧ i ≠ 47)) → h' c i = h c i := by
  obtain ⟨r, h', e1, e2, e3⟩ := find_m (F := F) (what := 3) (w := -1) hF hd hd hw hw (by omega) hr hr (by omega)
  refine ⟨h', ?_, e3⟩
  unfold fX12_turns
  have e1' : fX12_findMap F 181 (d : Int) (d : Int) 3 (-1) h = some (r, h') := e1
  rw [e1', zbd_some, zgf_eq]
  rcases e2 with ⟨-, j, x, -, w, -⟩ | ⟨-, -, w⟩
  · omega
  · rw [w, turns_len hw, Nat.zero_add]
theorem TG_line {n : Nat} {ar : List Nat} {tb : Nat → Nat → Int} {q : List Nat} (h2 : ∀ o, o < ar.length → ar.getD o 0 ≤ 2) : TG n ar (tbL n ar (lnL tb n ar q)) (lnv tb n ar q) := fun o a b ho ha hb => by
  unfold tbL
  rw [lnL_get h2 ho ha hb]
theorem ps_least {I6 : HF → Prop} {F : Nat} (hF : 6000 ≤ F) : PS_least F (InvP I4d I5d I6) := by
  intro h a1 a2 hI _ _
  have hI' := Inv_thrown hI
  have hD : ∀ d, d < 8 → DR h d := fun d hd => I4d_get hI.2.2.2.1 hd
  unfold fX11_least fX12_least
  simp only [zjn, zpf, zgf]
  by_cases qt : 0 ≤ a2 ∧ a2 < 8
  · have rc : fX11_refuseSource F 0 a1 a2 h = some (rfs h a1, h) := by rw [refuseSource_c hD, if_pos qt]
    by_cases qr : rfs h a1 = 0
    · obtain ⟨d, n, ar, tb, rfl, hd, hw, hc, hm⟩ := held hD qr
      obtain ⟨t, rfl⟩ : ∃ t : Nat, a2 = (t : Int) := ⟨a2.toNat, by omega⟩
      have ht : t < 8 := by omega
      have hn := hw.1
      have hl := hw.2.1
      have qd : 0 ≤ (d : Int) ∧ (d : Int) < 8 := by omega
      -- the class
      obtain ⟨h1, q, r0, s1, s2, s3, s4, s5, s6⟩ := seek_c0 (F := F) (A := 117 + 4 * d) (by omega) (by omega) (kt_drw d hd) hw hc
      have hc1 : RepC h1 (117 + 4 * d) n ar tb := RepC_keep (fun i k hi => s6 _ _ (by omega)) hc
      obtain ⟨a1, a2, a3, a4⟩ := k10b
      obtain ⟨hA, T, i1, i2, i3, i4⟩ := becomeImage_eq (F := F) (h := h1) (S := 117 + 4 * d) (X := 106) (Y := 107) (n := n) (n' := n) (ar := ar) (tb := tb) (olds := fun i => q.getD i 0) (news := fun v => iv q v) (by omega) (by omega) (by omega) (by omega) (kt_drw d hd) a1 a2 hw hn (fun i hi => s2.1.2 i hi) (by rw [s6 _ _ (by omega)]; exact I4d_8 hI.2.2.2.1) ⟨hc1, fun i hi => s3.1 i (by rw [s2.1.1]; exact hi), s3.2⟩
      have i3' : TG n ar T (lnv tb n ar q) := i3
      have hwT : WF n ar T := TG_WF hn hl hw.2.2.1 i3' (fun o a b ho ha hb => lnv_lt hw s2 ho (by have := rwN_le hn.1 (r := ar.getD o 0); omega) (by have := rwN_le hn.1 (r := ar.getD o 0); omega))
      have hIA : InvP I4d I5d I6 hA := Inv_while hI (fun c k x => by rw [i4 c k (by omega), s6 c k (by omega)])
      obtain ⟨g, g1, g2, g3, K⟩ := put_both (t := t) (by omega : 200 ≤ F) ht hIA hwT i2
      have tg : ∀ c k, (c ≠ 181 ∨ k ≠ 0) → stp g 181 0 0 c k = g c k := fun c k x => stp_ne x
      have gh : ∀ c k, 184 ≤ c → c ≤ 187 → g c k = h c k := fun c k x y => by rw [g3 _ _ (by omega) (by omega) (by omega), i4 _ _ (by omega), s6 _ _ (by omega)]
      have mg : RepM (stp g 181 0 0) 184 185 186 187 d n ar tb := RepM_row hd hw (fun c q hq => by rw [tg _ _ (by omega), gh _ _ (by omega) (by omega)]) hm
      -- the reference
      obtain ⟨m1, y1, y2, y3⟩ := mcopy (F := F) (s := d) (t := 8) (by omega) (by omega) (by omega) (by omega) hl hn.2 hw.2.2.1 mg
      have y1' : fX12_copy F 181 (d : Int) 8 (stp g 181 0 0) = some (0, m1) := y1
      obtain ⟨m2, q', f1, f2, f3, f4, f5⟩ := findLeast_m (F := F) (d := 8) (by omega) (by omega) hw y2
      have f1' : fX12_findLeast F 181 8 m1 = some (0, m2) := f1
      have r2 : RepM m2 184 185 186 187 8 n ar tb := RepM_off (fun c i hc => f5 _ _ (by omega)) y2
      obtain ⟨hB, p1, p2, p3⟩ := putLine_m (F := F) (d := 8) (L := lnL tb n ar q') (by omega) (by omega) hw (lnL_len hw.2.2.1) (lnL_lt hw f2) r2 f3
      have p1' : fX12_putLine F 181 8 (181 + 32) m2 = some (0, hB) := p1
      have same : lnL tb n ar q' = lnL tb n ar q := (wT_cmp hw f2 s2).2.2 (Nat.le_antisymm (f4 q s2) (s4 q' f2))
      rw [same] at p2
      have eT : ∀ o, o < ar.length → ∀ k, k < pw n (ar.getD o 0) → tbL n ar (lnL tb n ar q) o k = T o k := TG_eq hn.1 hw.2.2.1 (TG_line hw.2.2.1) i3'
      have mB : RepM hB 184 185 186 187 8 n ar T := RepM_ext eT p2
      obtain ⟨h3, h4, z1, z2, z3, z4, z5⟩ := K hB (fun c k x => by rw [p3 _ _ (by omega), f5 _ _ (by omega), y3 _ _ (by omega) (by omega) (by omega), tg _ _ (by omega)]) mB
      have hwL : WF n ar (tbL n ar (lnL tb n ar q)) := WF_tbL hn hl hw.2.2.1 (lnL_lt hw s2)
      have z4' : RepM h4 184 185 186 187 t n ar (tbL n ar (lnL tb n ar q)) := RepM_ext (fun o ho k hk => (eT o ho k hk).symm) z4
      obtain ⟨h5, u1, u2⟩ := turns_m (F := F) (d := t) (by omega) (by omega) hwL z4'
      rw [fib_len hw s2] at u1
      have cnt : (PL n).countP (fun x => decide (wT tb n ar x = wT tb n ar q)) = (PL n).countP (fun x => decide (lnL tb n ar x = lnL tb n ar q)) := by
        refine List.countP_congr fun x hx => ?_
        have hx' := ((PL_all hn).2.1 x).mp hx
        simp only [decide_eq_true_eq]
        exact ⟨fun e => (wT_cmp hw hx' s2).2.2 e, fun e => by unfold wT; rw [e]⟩
      refine ⟨(((PL n).countP (fun x => decide (lnL tb n ar x = lnL tb n ar q)) : Nat) : Int), g, h5, ?_, ?_, Inv_while z3 (fun c k x => u2 c k (by omega) (by omega))⟩
      · rw [rc, zbd_some, if_pos qr, drw_at hd]
        show zbd (fX6_seek F 105 (117 + 4 * d) 0 h) _ = _
        rw [s1, zbd_some, hc1.1]
        show zbd (fX0_becomeImage F 6 (117 + 4 * d) (n : Int) 106 107 h1) _ = _
        rw [i1, zbd_some, g1, zbd_some]
        have : g (0 + 105) 2 = h1 105 2 := by rw [show (0 + 105 : Nat) = 105 from rfl, g3 _ _ (by omega) (by omega) (by omega), i4 _ _ (by omega)]
        rw [this, s5, cnt]
      · rw [isDrawer_m, zbd_some, bl_pos qd, if_neg (show ¬ (1 : Int) = 0 by decide), isDrawer_m, zbd_some, bl_pos qt, if_neg (show ¬ (1 : Int) = 0 by decide), msz (by omega) mg, if_neg (by omega), y1', zbd_some, f1', zbd_some, p1', zbd_some, z1, zbd_some, z2, zbd_some, u1, zbd_some]
    · refine ⟨rfs h a1, h, stp h 181 0 0, by rw [rc, zbd_some, if_neg qr], ?_, hI'⟩
      rw [isDrawer_m, zbd_some]
      by_cases q1 : 0 ≤ a1 ∧ a1 < 8
      · obtain ⟨d, rfl⟩ : ∃ d : Nat, a1 = (d : Int) := ⟨a1.toNat, by omega⟩
        rw [bl_pos q1, if_neg (show ¬ (1 : Int) = 0 by decide), isDrawer_m, zbd_some, bl_pos qt, if_neg (show ¬ (1 : Int) = 0 by decide), rdm3 (by omega), stp_ne (by omega)]
        unfold rfs at qr ⊢
        rw [if_pos q1, Int.toNat_natCast] at qr ⊢
        by_cases q2 : h 184 d = 0
        · rw [if_pos q2, if_pos q2]
        · rw [if_neg q2] at qr; exact absurd rfl qr
      · rw [bl_neg q1, if_pos rfl]
        unfold rfs
        rw [if_neg q1]
  · refine ⟨-3, h, stp h 181 0 0, ?_, ?_, hI'⟩
    · rw [refuseSource_c hD, if_neg qt, zbd_some, if_neg (by decide)]
    · rw [isDrawer_m, zbd_some]
      by_cases q1 : 0 ≤ a1 ∧ a1 < 8
      · rw [bl_pos q1, if_neg (show ¬ (1 : Int) = 0 by decide), isDrawer_m, zbd_some, bl_neg qt, if_pos rfl]
      · rw [bl_neg q1, if_pos rfl]
