/-! undo -/
theorem undo_cells {F d c : Nat} {h : HF} {k : Int → HF → RO} (hd : d < 10) (hc : c < 16) : ∀ (m i N : Nat), i + m = 196 → m + 1 ≤ N → LX12_undo_109 F 181 (c : Int) (d : Int) k N (i : Int) (cpy h 192 (196 * c) 187 (196 * d) i) = k (d : Int) (cpy h 192 (196 * c) 187 (196 * d) 196) := by
  intro m
  induction m with
  | zero =>
    intro i N hi hN
    obtain ⟨N, rfl⟩ : ∃ M, N = M + 1 := ⟨N - 1, by omega⟩
    rw [LX12_undo_109, if_neg (by omega), show i = 196 by omega]
  | succ m ih =>
    intro i N hi hN
    obtain ⟨N, rfl⟩ : ∃ M, N = M + 1 := ⟨N - 1, by omega⟩
    rw [LX12_undo_109, if_pos (by omega), wr_id (x := 196 * (d : Int)) ⟨by omega, by omega⟩, wr_id (x := 196 * (d : Int) + (i : Int)) ⟨by omega, by omega⟩, wr_id (x := 196 * (c : Int)) ⟨by omega, by omega⟩, wr_id (x := 196 * (c : Int) + (i : Int)) ⟨by omega, by omega⟩, zrd_ok (a := 181 + 11) ⟨by omega, by show _ < ((3136 : Nat) : Int); omega⟩, zwr_ok (a := 181 + 6) ⟨by omega, by show _ < ((1960 : Nat) : Int); omega⟩]
    simp only [zlet]
    rw [wr_id ⟨by omega, by omega⟩, show (i : Int) + 1 = ((i + 1 : Nat) : Int) by omega, show (196 * (d : Int) + (i : Int)).toNat = 196 * d + i by omega, show (196 * (c : Int) + (i : Int)).toNat = 196 * c + i by omega, show cpy h 192 (196 * c) 187 (196 * d) i (181 + 11) (196 * c + i) = h 192 (196 * c + i) by rw [show (181 + 11 : Nat) = 192 by rfl, cpy_off (by decide)], show (181 + 6 : Nat) = 187 by rfl, cpy_succ]
    exact ih (i + 1) N (by omega) (by omega)
theorem undo_ar {F d c : Nat} {h : HF} {k : Int → Int → HF → RO} (hd : d < 10) (hc : c < 16) : ∀ (m i N : Nat), i + m = 4 → m + 1 ≤ N → LX12_undo_76 F 181 (c : Int) (d : Int) k N (i : Int) (cpy h 191 (4 * c) 186 (4 * d) i) = k (c : Int) (d : Int) (cpy h 191 (4 * c) 186 (4 * d) 4) := by
  intro m
  induction m with
  | zero =>
    intro i N hi hN
    obtain ⟨N, rfl⟩ : ∃ M, N = M + 1 := ⟨N - 1, by omega⟩
    rw [LX12_undo_76, if_neg (by omega), show i = 4 by omega]
  | succ m ih =>
    intro i N hi hN
    obtain ⟨N, rfl⟩ : ∃ M, N = M + 1 := ⟨N - 1, by omega⟩
    rw [LX12_undo_76, if_pos (by omega), wr_id (x := 4 * (d : Int)) ⟨by omega, by omega⟩, wr_id (x := 4 * (d : Int) + (i : Int)) ⟨by omega, by omega⟩, wr_id (x := 4 * (c : Int)) ⟨by omega, by omega⟩, wr_id (x := 4 * (c : Int) + (i : Int)) ⟨by omega, by omega⟩, zrd_ok (a := 181 + 10) ⟨by omega, by show _ < ((64 : Nat) : Int); omega⟩, zwr_ok (a := 181 + 5) ⟨by omega, by show _ < ((40 : Nat) : Int); omega⟩]
    simp only [zlet]
    rw [wr_id ⟨by omega, by omega⟩, show (i : Int) + 1 = ((i + 1 : Nat) : Int) by omega, show (4 * (d : Int) + (i : Int)).toNat = 4 * d + i by omega, show (4 * (c : Int) + (i : Int)).toNat = 4 * c + i by omega, show cpy h 191 (4 * c) 186 (4 * d) i (181 + 10) (4 * c + i) = h 191 (4 * c + i) by rw [show (181 + 10 : Nat) = 191 by rfl, cpy_off (by decide)], show (181 + 5 : Nat) = 186 by rfl, cpy_succ]
    exact ih (i + 1) N (by omega) (by omega)
/-- the reference's undo, where there is a change -/
theorem mundo {F d c m : Nat} {ce : Nat} {h : HF} (hF : 200 ≤ F) (hd : d < 8) (hc : h 181 15 = (ce : Int)) (hce : ce < 16) (ec : (ce + 15) % 16 = c) (hm : h 181 16 = (m : Int)) (hm0 : 0 < m) (hm6 : m ≤ 16) (e1 : h 188 c = (d : Int)) : ∃ h', fX12_undo F 181 h = some ((d : Int), h') ∧ h' 181 15 = (c : Int) ∧ h' 181 16 = ((m - 1 : Nat) : Int) ∧ h' 184 d = h 189 c ∧ h' 185 d = h 190 c ∧ (∀ o, o < 4 → h' 186 (4 * d + o) = h 191 (4 * c + o)) ∧ (∀ k, k < 196 → h' 187 (196 * d + k) = h 192 (196 * c + k)) ∧ ∀ c' k', (c' ≠ 181 ∨ (k' ≠ 0 ∧ k' ≠ 15 ∧ k' ≠ 16)) → ((c' ≠ 184 ∧ c' ≠ 185) ∨ k' ≠ d) → (c' ≠ 186 ∨ k' < 4 * d ∨ 4 * d + 4 ≤ k') → (c' ≠ 187 ∨ k' < 196 * d ∨ 196 * d + 196 ≤ k') → h' c' k' = h c' k' := by
  have hc6 : c < 16 := by omega
  generalize e0 : stp (stp (stp h 181 0 0) 181 15 (c : Int)) 181 16 ((m - 1 : Nat) : Int) = g0
  have g0o : ∀ c' k', (c' ≠ 181 ∨ (k' ≠ 0 ∧ k' ≠ 15 ∧ k' ≠ 16)) → g0 c' k' = h c' k' := fun c' k' a => by rw [← e0, stp_ne (by omega), stp_ne (by omega), stp_ne (by omega)]
  generalize e1' : stp (stp g0 184 d (h 189 c)) 185 d (h 190 c) = g1
  have g1o : ∀ c' k', ((c' ≠ 184 ∧ c' ≠ 185) ∨ k' ≠ d) → g1 c' k' = g0 c' k' := fun c' k' a => by rw [← e1', stp_ne (by omega), stp_ne (by omega)]
  generalize e2 : cpy g1 191 (4 * c) 186 (4 * d) 4 = g2
  have g2o : ∀ c', c' ≠ 186 → g2 c' = g1 c' := fun c' a => by rw [← e2, cpy_off a]
  have g2i : ∀ k', g2 186 k' = if 4 * d ≤ k' ∧ k' < 4 * d + 4 then g1 191 (4 * c + (k' - 4 * d)) else g1 186 k' := fun k' => by rw [← e2]; unfold cpy; rw [if_pos rfl]
  generalize e3 : cpy g2 192 (196 * c) 187 (196 * d) 196 = g3
  have g3o : ∀ c', c' ≠ 187 → g3 c' = g2 c' := fun c' a => by rw [← e3, cpy_off a]
  have g3i : ∀ k', g3 187 k' = if 196 * d ≤ k' ∧ k' < 196 * d + 196 then g2 192 (196 * c + (k' - 196 * d)) else g2 187 k' := fun k' => by rw [← e3]; unfold cpy; rw [if_pos rfl]
  refine ⟨g3, ?_, ?_, ?_, ?_, ?_, ?_, ?_, ?_⟩
  · unfold fX12_undo
    simp only [zpf, zgf, zjn]
    rw [stp_ne (show (181 : Nat) ≠ 181 ∨ (16 : Nat) ≠ 0 from Or.inr (by decide)), hm, if_neg (by omega), stp_ne (show (181 : Nat) ≠ 181 ∨ (15 : Nat) ≠ 0 from Or.inr (by decide)), hc, zdv_ok (by decide), wr_id (x := (ce : Int) + 15) ⟨by omega, by omega⟩, show (ce : Int) + 15 = ((ce + 15 : Nat) : Int) by omega, show (16 : Int) = ((16 : Nat) : Int) from rfl, wrem_N (by omega), ec]
    rw [show stp (stp h 181 0 0) 181 15 (c : Int) 181 16 = (m : Int) by rw [stp_ne (Or.inr (by decide)), stp_ne (Or.inr (by decide)), hm], wr_id (x := (m : Int) - 1) ⟨by omega, by omega⟩, show (m : Int) - 1 = ((m - 1 : Nat) : Int) by omega, e0]
    rw [show g0 181 15 = (c : Int) by rw [← e0, stp_ne (Or.inr (by decide)), stp_eq], zrd_ok (a := 181 + 7) ⟨by omega, by show _ < ((16 : Nat) : Int); omega⟩, Int.toNat_natCast, show g0 (181 + 7) c = (d : Int) by rw [g0o _ _ (by omega)]; exact e1, zrd_ok (a := 181 + 8) ⟨by omega, by show _ < ((16 : Nat) : Int); omega⟩, Int.toNat_natCast, zwr_ok (a := 181 + 3) ⟨by omega, by show _ < ((10 : Nat) : Int); omega⟩, Int.toNat_natCast, zrd_ok (a := 181 + 9) ⟨by omega, by show _ < ((16 : Nat) : Int); omega⟩, Int.toNat_natCast, zwr_ok (a := 181 + 4) ⟨by omega, by show _ < ((10 : Nat) : Int); omega⟩, Int.toNat_natCast]
    rw [show stp g0 (181 + 3) d (g0 (181 + 8) c) (181 + 9) c = h 190 c by rw [stp_ne (Or.inl (by decide)), g0o _ _ (by omega)], show g0 (181 + 8) c = h 189 c from g0o _ _ (by omega), show stp (stp g0 (181 + 3) d (h 189 c)) (181 + 4) d (h 190 c) = g1 from e1']
    have l1 := undo_ar (F := F) (d := d) (c := c) (h := g1) (k := fun x107_1 x107_2 h => LX12_undo_109 F 181 x107_1 x107_2 (fun x146_2 h => some (x146_2, h)) F 0 h) (by omega) hc6 4 0 F (by omega) (by omega)
    rw [cpy_0] at l1
    refine l1.trans ?_
    rw [e2]
    have l2 := undo_cells (F := F) (d := d) (c := c) (h := g2) (k := fun x146_2 h => some (x146_2, h)) (by omega) hc6 196 0 F (by omega) (by omega)
    rw [cpy_0] at l2
    refine l2.trans ?_
    rw [e3]
  · rw [g3o _ (by decide), g2o _ (by decide), g1o _ _ (by omega), ← e0, stp_ne (Or.inr (by decide)), stp_eq]
  · rw [g3o _ (by decide), g2o _ (by decide), g1o _ _ (by omega), ← e0, stp_eq]
  · rw [g3o _ (by decide), g2o _ (by decide), ← e1', stp_ne (Or.inl (by decide)), stp_eq]
  · rw [g3o _ (by decide), g2o _ (by decide), ← e1', stp_eq]
  · intro o ho
    rw [g3o _ (by decide), g2i, if_pos ⟨by omega, by omega⟩, show 4 * d + o - 4 * d = o by omega, g1o _ _ (by omega), g0o _ _ (by omega)]
  · intro k hk
    rw [g3i, if_pos ⟨by omega, by omega⟩, show 196 * d + k - 196 * d = k by omega, g2o _ (by decide), g1o _ _ (by omega), g0o _ _ (by omega)]
  · intro c' k' x y z w
    have r1 : g1 c' k' = h c' k' := by rw [g1o _ _ y, g0o _ _ x]
    have r2 : g2 c' k' = h c' k' := by
      by_cases v : c' = 186
      · subst v
        rw [g2i, if_neg (by omega)]; exact r1
      · rw [g2o _ v]; exact r1
    by_cases v : c' = 187
    · subst v
      rw [g3i, if_neg (by omega)]; exact r2
    · rw [g3o _ v]; exact r2
theorem ps_undo {I6 : HF → Prop} {F : Nat} (hF : 200 ≤ F) : PS_undo F (InvP I4d I5d I6) := by
  intro h hI
  have hD : ∀ d, d < 8 → DR h d := fun d hd => I4d_get hI.2.2.2.1 hd
  obtain ⟨ol, kp, ce, a1, a2, a3, b1, b2, b3, b4, hA⟩ := I5d_get hI.2.2.2.2.1
  have hu : fX11_undo F 0 h = zbd (fX3_takeBack F 10 5 h) fun r1 h => some (r1, h) := rfl
  by_cases q : kp = 0
  · refine ⟨-1, h, stp h 181 0 0, ?_, ?_, Inv_thrown hI⟩
    · rw [hu]
      unfold fX3_takeBack
      simp only [zgf]
      rw [b2, if_pos (by omega), zbd_some]
    · unfold fX12_undo
      simp only [zpf, zgf]
      rw [stp_ne (show (181 : Nat) ≠ 181 ∨ (16 : Nat) ≠ 0 from Or.inr (by decide)), b4, if_pos (by omega)]
  · obtain ⟨d, hd, c1, c2, c3⟩ := hA (kp - 1) (by omega)
    have es : (ol + (kp - 1)) % 16 < 16 := Nat.mod_lt _ (by decide)
    have ec : (ce + 16 - kp + (kp - 1)) % 16 = (ce + 15) % 16 := by omega
    rw [ec] at c2 c3
    have oth : ∀ i, i < kp - 1 → (ol + i) % 16 ≠ (ol + (kp - 1)) % 16 := fun i hi => by omega
    generalize hs : (ol + (kp - 1)) % 16 = s at es c1 c3 oth
    obtain ⟨m, t, hm, ht, m1, mt⟩ := CR_ends c3
    have kh : ∀ c k, (c ≠ 10 ∨ k ≠ 3) → stp h 10 3 ((kp - 1 : Nat) : Int) c k = h c k := fun c k x => stp_ne x
    obtain ⟨g, e, fo, f0, f1, f2, f3, f4, f5⟩ := copyFrom_eq (F := F) (A := 117 + 4 * d) (B := 13 + 4 * s) (h := stp h 10 3 ((kp - 1 : Nat) : Int)) (kt_drw d hd) (kt_his s es) (by omega) (by rw [kh _ _ (by omega)]; exact m1) hm (by rw [kh _ _ (by omega)]; exact mt) ht
    have gh : ∀ c k, (c < 117 + 4 * d ∨ 120 + 4 * d < c) → (c ≠ 10 ∨ k ≠ 3) → g c k = h c k := fun c k x y => by rw [fo c (by omega) (by omega) (by omega) (by omega), kh c k y]
    obtain ⟨h4, u1, u2, u3, u4, u5, u6, u7, u8⟩ := mundo (F := F) (d := d) (ce := ce) (m := kp) (h := g) hF hd (by rw [gh _ _ (by omega) (by omega)]; exact b3) a3 rfl (by rw [gh _ _ (by omega) (by omega)]; exact b4) (by omega) a2 (by rw [gh _ _ (by omega) (by omega)]; exact c2)
    have g4 : ∀ c k, c < 181 → h4 c k = g c k := fun c k x => u8 c k (by omega) (by omega) (by omega) (by omega)
    refine ⟨(d : Int), g, h4, ?_, u1, Inv_drw hI ?_ hd ?_ ?_⟩
    · rw [hu]
      unfold fX3_takeBack
      simp only [zgf, zpf, zlet]
      rw [b2, if_neg (by omega), wr_id ⟨by omega, by omega⟩, show (kp : Int) - 1 = ((kp - 1 : Nat) : Int) by omega, stp_eq, stp_ne (show (10 : Nat) ≠ 10 ∨ (2 : Nat) ≠ 3 from Or.inr (by decide)), b1, zdv_ok (by decide), wr_id ⟨by omega, by omega⟩, show (ol : Int) + ((kp - 1 : Nat) : Int) = ((ol + (kp - 1) : Nat) : Int) by omega, show (16 : Int) = ((16 : Nat) : Int) from rfl, wrem_N (by omega), hs, zrd_ok (a := 10 + 2) ⟨by omega, by show _ < ((16 : Nat) : Int); omega⟩, Int.toNat_natCast, kh _ _ (by omega), show h (10 + 2) s = (d : Int) from c1, show zrs 5 (d : Int) = zrs (0 + 5) (d : Int) from rfl, drw_at hd, zrs_ok (a := 10 + 1) ⟨by omega, by show _ < ((16 : Nat) : Int); omega⟩, Int.toNat_natCast, show zsa (10 + 1) s = 13 + 4 * s from rfl, e, zbd_some, zbd_some]
    · intro c k x
      rw [u8 c k (by omega) (by omega) (by omega) (by omega), gh c k (by omega) (by omega)]
    · refine CR_move c3 m1 mt ?_ ?_ ?_ ?_ ?_ ?_ ?_ ?_ ?_ ?_
      · rw [g4 _ _ (by omega), f0, kh _ _ (by omega)]
      · rw [g4 _ _ (by omega), f1, kh _ _ (by omega)]
      · rw [g4 _ _ (by omega), f2, kh _ _ (by omega)]
      · intro o ho; rw [g4 _ _ (by omega), f3 o ho, kh _ _ (by omega)]
      · intro o ho; rw [g4 _ _ (by omega), f4 o ho, kh _ _ (by omega)]
      · intro o ho; rw [g4 _ _ (by omega), f5 o ho, kh _ _ (by omega)]
      · rw [u4, gh _ _ (by omega) (by omega)]
      · rw [u5, gh _ _ (by omega) (by omega)]
      · intro o ho; rw [u6 o ho, gh _ _ (by omega) (by omega)]
      · intro o ho; rw [u7 o ho, gh _ _ (by omega) (by omega)]
    · have sm : ∀ c k, (12 ≤ c ∧ c ≤ 76) ∨ (188 ≤ c ∧ c ≤ 192) ∨ (c = 10 ∧ k = 2) → h4 c k = h c k := fun c k x => by rw [u8 c k (by omega) (by omega) (by omega) (by omega), gh c k (by omega) (by omega)]
      refine ⟨ol, kp - 1, (ce + 15) % 16, a1, by omega, by omega, by rw [sm _ _ (by omega)]; exact b1, ?_, u2, u3, fun i hi => ?_⟩
      · rw [g4 _ _ (by omega), fo 10 (by omega) (by omega) (by omega) (by omega), stp_eq]
      · obtain ⟨d', x1, x2, x3, x4⟩ := hA i (by omega)
        have em : ((ce + 15) % 16 + 16 - (kp - 1) + i) % 16 = (ce + 16 - kp + i) % 16 := by omega
        have ei : (ol + i) % 16 < 16 := Nat.mod_lt _ (by decide)
        rw [em]
        refine ⟨d', x1, by rw [sm _ _ (by omega)]; exact x2, by rw [sm _ _ (by omega)]; exact x3, CR_keep (fun c hc => ?_) x4⟩
        funext k
        exact sm c k (by omega)
