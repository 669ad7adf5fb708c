/-! the draft into a drawer; blank; make -/
theorem copy_Rep {h g : HF} {A B n : Nat} {ar : List Nat} {tb : Nat → Nat → Int} (hr : RepC h B n ar tb) (f0 : g A 0 = h B 0) (f1 : g A 1 = h B 1) (f2 : g A 2 = h B 2) (f3 : ∀ o, o < ar.length → g (A + 1) o = h (B + 1) o) (f4 : ∀ o, o ≤ ar.length → g (A + 2) o = h (B + 2) o) (f5 : ∀ i, i < sto n ar ar.length → g (A + 3) i = h (B + 3) i) : RepC g A n ar tb := by
  obtain ⟨b0, b1, b2, b3, b4, b5⟩ := hr
  refine ⟨f0.trans b0, f1.trans b1, f2.trans b2, fun o ho => (f3 o ho).trans (b3 o ho), fun o ho => (f4 o ho).trans (b4 o ho), fun o ho k hk => (f5 _ ?_).trans (b5 o ho k hk)⟩
  have := sto_mono (n := n) (ar := ar) (o := o) ar.length (by omega)
  omega
theorem put_draft {F d n : Nat} {h : HF} {ar : List Nat} {tb : Nat → Nat → Int} (hF : 200 ≤ F) (hd : d < 8) (h5 : I5d h) (hD : DR h d) (hw : WF n ar tb) (hr : RepC h 6 n ar tb) : ∃ g, fX11_putDraft F 0 (d : Int) h = some (0, g) ∧ RepC g 6 n ar tb ∧ RepC g (117 + 4 * d) n ar tb ∧ (∀ c k, (c < 12 ∨ 76 < c) → (c ≠ 10 ∨ (k ≠ 2 ∧ k ≠ 3)) → (c < 117 + 4 * d ∨ 120 + 4 * d < c) → g c k = h c k) ∧ ∀ h2, (∀ c k, S5 c k = true → h2 c k = g c k) → h2 184 d = h 184 d → h2 185 d = h 185 d → (∀ o, o < 4 → h2 186 (4 * d + o) = h 186 (4 * d + o)) → (∀ k, k < 196 → h2 187 (196 * d + k) = h 187 (196 * d + k)) → ∃ h3, fX12_keep F 181 (d : Int) h2 = some (0, h3) ∧ (∀ c' k', (c' < 188 ∨ 192 < c') → (c' ≠ 181 ∨ (k' ≠ 15 ∧ k' ≠ 16)) → h3 c' k' = h2 c' k') ∧ I5d h3 := by
  obtain ⟨h1, e1, k1, K⟩ := keep2 hF hd h5 hD
  have hr1 : RepC h1 6 n ar tb := RepC_keep (fun i k hi => k1 _ _ (by omega) (by omega)) hr
  have hl := hw.2.1
  have hs := sto_le hw.1.2 hw.2.2.1 ar.length (Nat.le_refl _)
  obtain ⟨g, e, fo, f0, f1, f2, f3, f4, f5⟩ := copyFrom_eq (F := F) (A := 117 + 4 * d) (B := 6) (h := h1) (kt_drw d hd) (by decide) (by omega) hr1.2.1 hl (hr1.2.2.2.2.1 _ (Nat.le_refl _)) (by omega)
  have go : ∀ c k, (c < 117 + 4 * d ∨ 120 + 4 * d < c) → g c k = h1 c k := fun c k x => by rw [fo c (by omega) (by omega) (by omega) (by omega)]
  refine ⟨g, ?_, RepC_keep (fun i k hi => go _ _ (by omega)) hr1, copy_Rep hr1 f0 f1 f2 f3 f4 f5, fun c k x y z => (go c k z).trans (k1 c k x y), fun h2 g5 r0 r1 r2 r3 => K h2 (fun c k q => (g5 c k q).trans ?_) r0 r1 r2 r3⟩
  · unfold fX11_putDraft
    rw [drw_at hd, e1, zbd_some, drw_at hd, show fX0_copyFrom F (117 + 4 * d) (0 + 6) h1 = some (0, g) from e, zbd_some]
  · have := S5_out q
    exact go c k (by omega)
theorem blank1_L {F d : Nat} {k : HF → RO} (hd : d < 10) : ∀ (m N v : Nat) (l : List Nat) (h : HF), l.length + m ≤ 4 → m + 1 ≤ N → okA m v = true → v < 2 ^ 31 → h 185 d = (l.length : Int) → (∀ o, o < l.length → h 186 (4 * d + o) = ((l.getD o 0 : Nat) : Int)) → ∃ h', LX12_blank_17 F 181 (d : Int) k N (v : Int) h = k h' ∧ h' 185 d = (((l ++ arsOf m v).length : Nat) : Int) ∧ (∀ o, o < (l ++ arsOf m v).length → h' 186 (4 * d + o) = (((l ++ arsOf m v).getD o 0 : Nat) : Int)) ∧ ∀ c k, (c ≠ 185 ∨ k ≠ d) → (c ≠ 186 ∨ k < 4 * d ∨ 4 * d + 4 ≤ k) → h' c k = h c k := by
  intro m
  induction m with
  | zero =>
    intro N v l h hl hN hv hv3 h1 h2
    obtain ⟨N, rfl⟩ : ∃ M, N = M + 1 := ⟨N - 1, by omega⟩
    have : v = 0 := by simpa [okA] using hv
    subst this
    rw [LX12_blank_17, if_neg (by omega), ars_zero, List.append_nil]
    exact ⟨h, rfl, h1, h2, fun _ _ _ _ => rfl⟩
  | succ m ih =>
    intro N v l h hl hN hv hv3 h1 h2
    obtain ⟨N, rfl⟩ : ∃ M, N = M + 1 := ⟨N - 1, by omega⟩
    rw [LX12_blank_17]
    by_cases q : v = 0
    · subst q
      rw [if_neg (by omega), ars_zero, List.append_nil]
      exact ⟨h, rfl, h1, h2, fun _ _ _ _ => rfl⟩
    · rw [okA_s q] at hv
      simp only [Bool.and_eq_true, decide_eq_true_eq] at hv
      have hl' : (l ++ [v % 10 - 1]).length = l.length + 1 := by simp
      generalize e2 : stp (stp h 186 (4 * d + l.length) ((v % 10 - 1 : Nat) : Int)) 185 d ((l.length + 1 : Nat) : Int) = g
      have go : ∀ c k, (c ≠ 185 ∨ k ≠ d) → (c ≠ 186 ∨ k ≠ 4 * d + l.length) → g c k = h c k := fun c k x y => by rw [← e2, stp_ne x, stp_ne y]
      obtain ⟨h', e', a1, a2, a3⟩ := ih N (v / 10) (l ++ [v % 10 - 1]) g (by rw [hl']; omega) (by omega) hv.2 (by omega) (by rw [← e2, stp_eq, hl']) (fun o ho => by
        rw [hl'] at ho
        by_cases z : o = l.length
        · subst z
          rw [gd_eq, ← e2, stp_ne (Or.inl (by decide)), stp_eq]
        · rw [gd_lt (by omega), go _ _ (by omega) (by omega), h2 o (by omega)])
      have ea : l ++ arsOf (m + 1) v = l ++ [v % 10 - 1] ++ arsOf m (v / 10) := by rw [ars_s q]; simp
      rw [ea]
      refine ⟨h', ?_, a1, a2, fun c k x y => by rw [a3 c k x y, go c k x (by omega)]⟩
      rw [if_pos (by omega), zrd_ok (a := 181 + 4) ⟨by omega, by show _ < ((10 : Nat) : Int); omega⟩, Int.toNat_natCast, show h (181 + 4) d = (l.length : Int) from h1, zdv_ok (by decide), wr_id (x := 4 * (d : Int)) ⟨by omega, by omega⟩, wr_id (x := 4 * (d : Int) + (l.length : Int)) ⟨by omega, by omega⟩, show (10 : Int) = ((10 : Nat) : Int) from rfl, wrem_N hv3, wr_id ⟨by omega, by omega⟩, show ((v % 10 : Nat) : Int) - 1 = ((v % 10 - 1 : Nat) : Int) by omega, zwr_ok (a := 181 + 5) ⟨by omega, by show _ < ((40 : Nat) : Int); omega⟩, show (4 * (d : Int) + (l.length : Int)).toNat = 4 * d + l.length by omega, zrd_ok (a := 181 + 4) ⟨by omega, by show _ < ((10 : Nat) : Int); omega⟩, Int.toNat_natCast, show stp h (181 + 5) (4 * d + l.length) ((v % 10 - 1 : Nat) : Int) (181 + 4) d = (l.length : Int) by rw [stp_ne (Or.inl (by decide))]; exact h1, wr_id ⟨by omega, by omega⟩, show (l.length : Int) + 1 = ((l.length + 1 : Nat) : Int) by omega, zwr_ok (a := 181 + 4) ⟨by omega, by show _ < ((10 : Nat) : Int); omega⟩, Int.toNat_natCast, show stp (stp h (181 + 5) (4 * d + l.length) ((v % 10 - 1 : Nat) : Int)) (181 + 4) d ((l.length + 1 : Nat) : Int) = g from e2, zdv_ok (by decide), wdiv_N hv3]
      simp only [zlet]
      exact e'
theorem blank2_L {F d : Nat} {k : HF → RO} (hd : d < 10) : ∀ (m i N : Nat) (h : HF), i + m = 196 → m + 1 ≤ N → LX12_blank_67 F 181 (d : Int) k N (i : Int) h = k (fil h 187 (196 * d + i) m 0) := by
  intro m
  induction m with
  | zero =>
    intro i N h hi hN
    obtain ⟨N, rfl⟩ : ∃ M, N = M + 1 := ⟨N - 1, by omega⟩
    rw [LX12_blank_67, if_neg (by omega), fil_0]
  | succ m ih =>
    intro i N h hi hN
    obtain ⟨N, rfl⟩ : ∃ M, N = M + 1 := ⟨N - 1, by omega⟩
    rw [LX12_blank_67, if_pos (by omega), wr_id (x := 196 * (d : Int)) ⟨by omega, by omega⟩, wr_id (x := 196 * (d : Int) + (i : Int)) ⟨by omega, by omega⟩, zwr_ok (a := 181 + 6) ⟨by omega, by show _ < ((1960 : Nat) : Int); omega⟩, show (196 * (d : Int) + (i : Int)).toNat = 196 * d + i by omega]
    simp only [zlet]
    rw [wr_id ⟨by omega, by omega⟩, show (i : Int) + 1 = ((i + 1 : Nat) : Int) by omega, ih (i + 1) N _ (by omega) (by omega), show 196 * d + (i + 1) = 196 * d + i + 1 by omega, show (181 + 6 : Nat) = 187 from rfl, fil_succ]
theorem blank_eq {F d n v : Nat} {h : HF} (hF : 200 ≤ F) (hd : d < 10) (hn : 1 ≤ n ∧ n ≤ 7) (hv : okA 4 v = true) : ∃ h', fX12_blank F 181 (d : Int) (n : Int) (v : Int) h = some (0, h') ∧ RepM h' 184 185 186 187 d n (arsOf 4 v) (fun _ _ => 0) ∧ ∀ c k, ((c ≠ 184 ∧ c ≠ 185) ∨ k ≠ d) → (c ≠ 186 ∨ k < 4 * d ∨ 4 * d + 4 ≤ k) → (c ≠ 187 ∨ k < 196 * d ∨ 196 * d + 196 ≤ k) → h' c k = h c k := by
  have hlt := okA_lt 4 v hv
  have hw := ars_WF hn (Nat.le_refl 4) hv
  obtain ⟨g, e, a1, a2, a3⟩ := blank1_L (F := F) (d := d) (k := fun h => LX12_blank_67 F 181 (d : Int) (fun h => some (0, h)) F 0 h) hd 4 F v [] (stp (stp h 184 d (n : Int)) 185 d 0) (by simp) (by omega) hv (by omega) (by rw [stp_eq]; rfl) (fun o ho => absurd ho (by simp))
  rw [List.nil_append] at a1 a2
  refine ⟨fil g 187 (196 * d) 196 0, ?_, ⟨?_, ?_, fun o ho => ?_, fun o ho k hk => ?_⟩, fun c k x y z => ?_⟩
  · unfold fX12_blank
    simp only [zjn]
    rw [zwr_ok (a := 181 + 3) ⟨by omega, by show _ < ((10 : Nat) : Int); omega⟩, Int.toNat_natCast, zwr_ok (a := 181 + 4) ⟨by omega, by show _ < ((10 : Nat) : Int); omega⟩, Int.toNat_natCast]
    refine e.trans ?_
    exact blank2_L (F := F) (d := d) (k := fun h => some (0, h)) hd 196 0 F g (by omega) (by omega)
  · rw [fil_off (by omega), a3 _ _ (by omega) (by omega), stp_ne (Or.inl (by decide)), stp_eq]
  · rw [fil_off (by omega), a1]
  · rw [fil_off (by omega), a2 o ho]
  · have := pw_le hn.2 (hw.2.2.1 o ho)
    have := hw.2.1
    rw [fil_in ⟨by omega, by omega⟩]
  · rw [fil_off (by omega), a3 _ _ (by omega) (by omega), stp_ne (by omega), stp_ne (by omega)]
/-- what is only for a while changes -/
theorem Inv_while {I6 : HF → Prop} {h h' : HF} (hI : InvP I4d I5d I6 h) (e : ∀ c k, (c ≤ 4 ∨ (c = 8 ∧ k = 0) ∨ (10 ≤ c ∧ c ≤ 86) ∨ (117 ≤ c ∧ c ≤ 180) ∨ c = 182 ∨ c = 183 ∨ ((c = 184 ∨ c = 185) ∧ k < 8) ∨ (c = 186 ∧ k < 32) ∨ (c = 187 ∧ k < 1568) ∨ (188 ≤ c ∧ c ≤ 192) ∨ (194 ≤ c ∧ c ≤ 205) ∨ (c = 181 ∧ (k = 2 ∨ k = 4 ∨ k = 5 ∨ k = 15 ∨ k = 16))) → h' c k = h c k) : InvP I4d I5d I6 h' :=
  Inv_change' hI (fun c k x => e c k (by omega)) (fun d hd => DR_off (fun i k hi => e _ _ (by omega)) (e _ _ (by omega)) (e _ _ (by omega)) (fun o ho => e _ _ (by omega)) (fun k hk => e _ _ (by omega)) (I4d_get hI.2.2.2.1 hd)) (I5d_congr (fun c k x => by have := S5_out x; exact e c k (by omega)) (I5d_get hI.2.2.2.2.1))
theorem ps_make {I6 : HF → Prop} {F : Nat} (hF : 200 ≤ F) : PS_make F (InvP I4d I5d I6) := by
  intro h a1 a2 a3 hI _ _ r3
  have hI' := Inv_thrown hI
  unfold fX11_make fX12_make
  simp only [zjn, zpf]
  by_cases q1 : 0 ≤ a1 ∧ a1 < 8
  · by_cases q2 : 1 ≤ a2 ∧ a2 ≤ 7 ∧ 0 ≤ a3 ∧ okA 4 a3.toNat = true
    · obtain ⟨d, rfl⟩ : ∃ d : Nat, a1 = (d : Int) := ⟨a1.toNat, by omega⟩
      obtain ⟨n, rfl⟩ : ∃ n : Nat, a2 = (n : Int) := ⟨a2.toNat, by omega⟩
      obtain ⟨v, rfl⟩ : ∃ v : Nat, a3 = (v : Int) := ⟨a3.toNat, by omega⟩
      have hv : okA 4 v = true := by have := q2.2.2.2; rwa [Int.toNat_natCast] at this
      have hd : d < 8 := by omega
      have hn : 1 ≤ n ∧ n ≤ 7 := by omega
      have hw := ars_WF hn (Nat.le_refl 4) hv
      obtain ⟨hs, es, rs, fs⟩ := shape_eq (F := F) (A := 0 + 6) (n := n) (v := v) (h := h) hF (by decide) hn hv (I4d_8 hI.2.2.2.1)
      have hIs : InvP I4d I5d I6 hs := Inv_while hI (fun c k x => fs c k (by omega))
      obtain ⟨g, eg, rg6, rg, fg, K⟩ := put_draft (F := F) (d := d) (h := hs) hF hd (I5d_get hIs.2.2.2.2.1) (I4d_get hIs.2.2.2.1 hd) hw rs
      have tg : ∀ c k, (c ≠ 181 ∨ k ≠ 0) → stp g 181 0 0 c k = g c k := fun c k x => stp_ne x
      obtain ⟨h3, e3, k3, i5⟩ := K (stp g 181 0 0) (fun c k x => by have := S5_out x; rw [tg c k (by omega)]) (by rw [tg _ _ (by omega), fg _ _ (by omega) (by omega) (by omega)]) (by rw [tg _ _ (by omega), fg _ _ (by omega) (by omega) (by omega)]) (fun o _ => by rw [tg _ _ (by omega), fg _ _ (by omega) (by omega) (by omega)]) (fun o _ => by rw [tg _ _ (by omega), fg _ _ (by omega) (by omega) (by omega)])
      obtain ⟨h4, e4, r4, f4⟩ := blank_eq (F := F) (d := d) (n := n) (v := v) (h := h3) hF (by omega) hn hv
      refine ⟨((sto n (arsOf 4 v) (arsOf 4 v).length : Nat) : Int), g, h4, ?_, ?_, Inv_drw hI ?_ hd (Or.inr ⟨n, arsOf 4 v, _, hw, ?_, r4⟩) ?_⟩
      · rw [isDrawer_c, zbd_some, bl_pos q1, if_neg (show ¬ (1 : Int) = 0 by decide), isShape_eq (by omega) r3, zbd_some, bl_pos q2, if_neg (show ¬ (1 : Int) = 0 by decide), es, zbd_some, eg, zbd_some, cellCount_eq (A := 0 + 6) (by decide) hw rg6, zbd_some]
      · rw [isDrawer_m, zbd_some, bl_pos q1, if_neg (show ¬ (1 : Int) = 0 by decide), if_neg (by omega), if_neg (by omega), areArities_eq (by omega) r3, zbd_some, bl_pos q2.2.2, if_neg (show ¬ (1 : Int) = 0 by decide), e3, zbd_some, e4, zbd_some, cellsOf_eq (by omega) (by omega) hw r4, zbd_some]
      · intro c k x
        rw [f4 _ _ (by omega) (by omega) (by omega), k3 _ _ (by omega) (by omega), tg _ _ (by omega), fg _ _ (by omega) (by omega) (by omega), fs _ _ (by omega)]
      · exact RepC_keep (fun i k hi => by rw [f4 _ _ (by omega) (by omega) (by omega), k3 _ _ (by omega) (by omega), tg _ _ (by omega)]) rg
      · exact I5d_congr (fun c k x => by have := S5_out x; exact f4 _ _ (by omega) (by omega) (by omega)) i5
    · refine ⟨-3, h, stp h 181 0 0, ?_, ?_, hI'⟩
      · rw [isDrawer_c, zbd_some, bl_pos q1, if_neg (show ¬ (1 : Int) = 0 by decide), isShape_eq (by omega) r3, zbd_some, bl_neg q2, if_pos (show (0 : Int) = 0 from rfl)]
      · rw [isDrawer_m, zbd_some, bl_pos q1, if_neg (show ¬ (1 : Int) = 0 by decide)]
        by_cases z1 : a2 < 1
        · rw [if_pos z1]
        · rw [if_neg z1]
          by_cases z2 : 7 < a2
          · rw [if_pos z2]
          · rw [if_neg z2, areArities_eq (by omega) r3, zbd_some, bl_neg (fun z => q2 ⟨by omega, by omega, z.1, z.2⟩), if_pos (show (0 : Int) = 0 from rfl)]
  · refine ⟨-3, h, stp h 181 0 0, ?_, ?_, hI'⟩
    · rw [isDrawer_c, zbd_some, bl_neg q1, if_pos (show (0 : Int) = 0 from rfl)]
    · rw [isDrawer_m, zbd_some, bl_neg q1, if_pos (show (0 : Int) = 0 from rfl)]
