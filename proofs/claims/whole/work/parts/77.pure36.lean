/-! the reference's row 8: like, setAt, copy; the draft and row 8 into a drawer -/
section LK
variable {F d n : Nat} {ar : List Nat} {tb : Nat → Nat → Int} {h : HF}
theorem marityG {o : Nat} (hd : d < 10) (hl : ar.length ≤ 4) (hr : RepM h 184 185 186 187 d n ar tb) (ho : o < ar.length) : fX12_arity F 181 (d : Int) (o : Int) h = some (((ar.getD o 0 : Nat) : Int), h) := by
  unfold fX12_arity
  rw [wr_id (x := 4 * (d : Int)) ⟨by omega, by omega⟩, wr_id ⟨by omega, by omega⟩, show 4 * (d : Int) + (o : Int) = ((4 * d + o : Nat) : Int) by omega, rdm5 (by omega), hr.2.2.1 o ho]
theorem atG {o : Nat} {a b : Int} (hd : d < 10) (hn : n ≤ 7) (hl : ar.length ≤ 4) (h2 : ar.getD o 0 ≤ 2) (hr : RepM h 184 185 186 187 d n ar tb) (ho : o < ar.length) (ha : 1 ≤ ar.getD o 0 → 0 ≤ a ∧ a < (n : Int)) (hb : 2 ≤ ar.getD o 0 → 0 ≤ b ∧ b < (n : Int)) : fX12_at F 181 (d : Int) (o : Int) a b h = some (((196 * d + 49 * o + ix n (ar.getD o 0) a.toNat b.toNat : Nat) : Int), h) := by
  have ma := marityG (F := F) hd hl hr ho
  unfold fX12_at
  simp only [zjn]
  rw [ma, zbd_some]
  generalize ar.getD o 0 = r at ha hb h2 ma ⊢
  rw [wr_id (x := 196 * (d : Int)) ⟨by omega, by omega⟩, wr_id (x := 49 * (o : Int)) ⟨by omega, by omega⟩, wr_id (x := 196 * (d : Int) + 49 * (o : Int)) ⟨by omega, by omega⟩]
  unfold ix
  by_cases q0 : r = 0
  · rw [if_pos (by omega), if_pos q0, wr_id ⟨by omega, by omega⟩]
    rfl
  · rw [if_neg (by omega), if_neg q0, ma, zbd_some]
    by_cases q1 : r = 1
    · have h1 := ha (by omega)
      rw [if_pos (by omega), if_pos q1, wr_id ⟨by omega, by omega⟩]
      exact so_eq (by omega)
    · have h1 := ha (by omega)
      have h3 := hb (by omega)
      have e6 : a * (n : Int) = ((a.toNat * n : Nat) : Int) := by rw [Int.natCast_mul, Int.toNat_of_nonneg h1.1]
      have h5 : a.toNat * n ≤ 7 * 7 := Nat.mul_le_mul (by omega) hn
      rw [if_neg (by omega), if_neg q1, rdm3 hd, show h 184 d = (n : Int) from hr.1, e6, wr_id (x := ((a.toNat * n : Nat) : Int)) ⟨by omega, by omega⟩, wr_id (x := ((a.toNat * n : Nat) : Int) + b) ⟨by omega, by omega⟩, wr_id ⟨by omega, by omega⟩]
      exact so_eq (by omega)
theorem setAt_eq {o : Nat} {a b v : Int} (hd : d < 10) (hn : n ≤ 7) (hl : ar.length ≤ 4) (h2 : ar.getD o 0 ≤ 2) (hr : RepM h 184 185 186 187 d n ar tb) (ho : o < ar.length) (hn1 : 1 ≤ n) (ha : 1 ≤ ar.getD o 0 → 0 ≤ a ∧ a < (n : Int)) (hb : 2 ≤ ar.getD o 0 → 0 ≤ b ∧ b < (n : Int)) : fX12_setAt F 181 (d : Int) (o : Int) a b v h = some (0, stp h 187 (196 * d + 49 * o + ix n (ar.getD o 0) a.toNat b.toNat) v) := by
  have hi : ix n (ar.getD o 0) a.toNat b.toNat < pw n (ar.getD o 0) := ix_lt hn1 (fun q => by have := ha q; omega) (fun q => by have := hb q; omega)
  have := pw_le hn h2
  unfold fX12_setAt
  rw [atG hd hn hl h2 hr ho ha hb, zbd_some, wtm6 (by omega)]
theorem upTo0 {o : Nat} (hd : d < 10) (hw : WF n ar tb) (hr : RepM h 184 185 186 187 d n ar tb) (ho : o < ar.length) : fX12_upTo F 181 (d : Int) (o : Int) 0 h = some (((rwN n (ar.getD o 0) : Nat) : Int), h) := by
  unfold fX12_upTo rwN
  simp only [zjn]
  rw [marityG hd hw.2.1 hr ho, zbd_some]
  by_cases q : ar.getD o 0 = 0
  · rw [if_neg (by omega), if_pos q]; rfl
  · rw [if_pos (by omega), if_neg q, msz hd hr]
theorem upTo1 {o : Nat} (hd : d < 10) (hw : WF n ar tb) (hr : RepM h 184 185 186 187 d n ar tb) (ho : o < ar.length) : fX12_upTo F 181 (d : Int) (o : Int) 1 h = some (((clN n (ar.getD o 0) : Nat) : Int), h) := by
  have h2 := hw.2.2.1 o ho
  unfold fX12_upTo clN
  simp only [zjn]
  rw [marityG hd hw.2.1 hr ho, zbd_some]
  by_cases q : ar.getD o 0 = 2
  · rw [if_pos (by omega), if_pos q, msz hd hr]
  · rw [if_neg (by omega), if_neg q]; rfl
theorem RepM_put8 {o i : Nat} {v : Int} (hn : n ≤ 7) (h2 : ∀ o, o < ar.length → ar.getD o 0 ≤ 2) (ho : o < ar.length) (hi : i < pw n (ar.getD o 0)) (hr : RepM h 184 185 186 187 d n ar tb) : RepM (stp h 187 (196 * d + 49 * o + i) v) 184 185 186 187 d n ar (updT tb o i v) := by
  obtain ⟨b1, b2, b3, b4⟩ := hr
  refine ⟨by rw [stp_ne (by omega)]; exact b1, by rw [stp_ne (by omega)]; exact b2, fun o ho => by rw [stp_ne (by omega)]; exact b3 o ho, fun o' ho' k hk => ?_⟩
  have h1 := pw_le hn (h2 o ho)
  have h2 := pw_le hn (h2 o' ho')
  unfold updT
  by_cases q : o' = o ∧ k = i
  · rw [if_pos q, q.1, q.2, stp_eq]
  · rw [if_neg q, stp_ne (Or.inr (by omega)), b4 o' ho' k hk]
end LK
theorem copy1_L {F s t : Nat} {k : HF → RO} (hs : s < 10) (ht : t < 10) (hst : s ≠ t) : ∀ (m i N : Nat) (h : HF), i + m = 4 → m + 1 ≤ N → ∃ h', LX12_copy_26 F 181 (s : Int) (t : Int) k N (i : Int) h = k h' ∧ (∀ j, i ≤ j → j < 4 → h' 186 (4 * t + j) = h 186 (4 * s + j)) ∧ ∀ c q, (c ≠ 186 ∨ q < 4 * t + i ∨ 4 * t + 4 ≤ q) → h' c q = h c q := by
  intro m
  induction m with
  | zero =>
    intro i N h hi hN
    obtain ⟨N, rfl⟩ : ∃ M, N = M + 1 := ⟨N - 1, by omega⟩
    rw [LX12_copy_26, if_neg (by omega)]
    exact ⟨h, rfl, fun j h1 h2 => absurd h2 (by omega), fun _ _ _ => rfl⟩
  | succ m ih =>
    intro i N h hi hN
    obtain ⟨N, rfl⟩ : ∃ M, N = M + 1 := ⟨N - 1, by omega⟩
    obtain ⟨h', x1, x2, x3⟩ := ih (i + 1) N (stp h 186 (4 * t + i) (h 186 (4 * s + i))) (by omega) (by omega)
    refine ⟨h', ?_, fun j h1 h2 => ?_, fun c q hq => by rw [x3 c q (by omega), stp_ne (by omega)]⟩
    · rw [LX12_copy_26, if_pos (by omega), wr_id (x := 4 * (s : Int)) ⟨by omega, by omega⟩, wr_id (x := 4 * (s : Int) + (i : Int)) ⟨by omega, by omega⟩, wr_id (x := 4 * (t : Int)) ⟨by omega, by omega⟩, wr_id (x := 4 * (t : Int) + (i : Int)) ⟨by omega, by omega⟩, show 4 * (s : Int) + (i : Int) = ((4 * s + i : Nat) : Int) by omega, show 4 * (t : Int) + (i : Int) = ((4 * t + i : Nat) : Int) by omega, rdm5 (by omega), wtm5 (by omega), zlet_eq, wr_s (by omega)]
      exact x1
    · by_cases z : j = i
      · subst z; rw [x3 186 _ (by omega), stp_eq]
      · rw [x2 j (by omega) h2, stp_ne (by omega)]
theorem copy2_L {F s t : Nat} {k : HF → RO} (hs : s < 10) (ht : t < 10) (hst : s ≠ t) : ∀ (m i N : Nat) (h : HF), i + m = 196 → m + 1 ≤ N → ∃ h', LX12_copy_59 F 181 (s : Int) (t : Int) k N (i : Int) h = k h' ∧ (∀ j, i ≤ j → j < 196 → h' 187 (196 * t + j) = h 187 (196 * s + j)) ∧ ∀ c q, (c ≠ 187 ∨ q < 196 * t + i ∨ 196 * t + 196 ≤ q) → h' c q = h c q := by
  intro m
  induction m with
  | zero =>
    intro i N h hi hN
    obtain ⟨N, rfl⟩ : ∃ M, N = M + 1 := ⟨N - 1, by omega⟩
    rw [LX12_copy_59, if_neg (by omega)]
    exact ⟨h, rfl, fun j h1 h2 => absurd h2 (by omega), fun _ _ _ => rfl⟩
  | succ m ih =>
    intro i N h hi hN
    obtain ⟨N, rfl⟩ : ∃ M, N = M + 1 := ⟨N - 1, by omega⟩
    obtain ⟨h', x1, x2, x3⟩ := ih (i + 1) N (stp h 187 (196 * t + i) (h 187 (196 * s + i))) (by omega) (by omega)
    refine ⟨h', ?_, fun j h1 h2 => ?_, fun c q hq => by rw [x3 c q (by omega), stp_ne (by omega)]⟩
    · rw [LX12_copy_59, if_pos (by omega), wr_id (x := 196 * (s : Int)) ⟨by omega, by omega⟩, wr_id (x := 196 * (s : Int) + (i : Int)) ⟨by omega, by omega⟩, wr_id (x := 196 * (t : Int)) ⟨by omega, by omega⟩, wr_id (x := 196 * (t : Int) + (i : Int)) ⟨by omega, by omega⟩, show 196 * (s : Int) + (i : Int) = ((196 * s + i : Nat) : Int) by omega, show 196 * (t : Int) + (i : Int) = ((196 * t + i : Nat) : Int) by omega, rdm6 (by omega), wtm6 (by omega), zlet_eq, wr_s (by omega)]
      exact x1
    · by_cases z : j = i
      · subst z; rw [x3 187 _ (by omega), stp_eq]
      · rw [x2 j (by omega) h2, stp_ne (by omega)]
theorem mcopy {F s t n : Nat} {ar : List Nat} {tb : Nat → Nat → Int} {h : HF} (hF : 200 ≤ F) (hs : s < 10) (ht : t < 10) (hst : s ≠ t) (hl : ar.length ≤ 4) (hn : n ≤ 7) (h2 : ∀ o, o < ar.length → ar.getD o 0 ≤ 2) (hr : RepM h 184 185 186 187 s n ar tb) : ∃ h', fX12_copy F 181 (s : Int) (t : Int) h = some (0, h') ∧ RepM h' 184 185 186 187 t n ar tb ∧ ∀ c q, ((c ≠ 184 ∧ c ≠ 185) ∨ q ≠ t) → (c ≠ 186 ∨ q < 4 * t ∨ 4 * t + 4 ≤ q) → (c ≠ 187 ∨ q < 196 * t ∨ 196 * t + 196 ≤ q) → h' c q = h c q := by
  obtain ⟨g2, y1, y2, y3⟩ := copy1_L (F := F) (s := s) (t := t) (k := fun h => LX12_copy_59 F 181 (s : Int) (t : Int) (fun h => some (0, h)) F 0 h) hs ht hst 4 0 F (stp (stp h 184 t (h 184 s)) 185 t (h 185 s)) (by omega) (by omega)
  obtain ⟨h', x1, x2, x3⟩ := copy2_L (F := F) (s := s) (t := t) (k := fun h => some (0, h)) hs ht hst 196 0 F g2 (by omega) (by omega)
  refine ⟨h', ?_, ⟨?_, ?_, fun o ho => ?_, fun o ho k hk => ?_⟩, fun c q h1 h2 h3 => by rw [x3 c q (by omega), y3 c q (by omega), stp_ne (by omega), stp_ne (by omega)]⟩
  · unfold fX12_copy
    simp only [zjn]
    rw [rdm3 hs, wtm3 ht, rdm4 hs, wtm4 ht, stp_ne (show (185 : Nat) ≠ 184 ∨ s ≠ t from Or.inl (by decide))]
    exact y1.trans x1
  · rw [x3 _ _ (by omega), y3 _ _ (by omega), stp_ne (Or.inl (by decide)), stp_eq]; exact hr.1
  · rw [x3 _ _ (by omega), y3 _ _ (by omega), stp_eq]; exact hr.2.1
  · rw [x3 _ _ (by omega), y2 o (by omega) (by omega), stp_ne (Or.inl (by decide)), stp_ne (Or.inl (by decide))]; exact hr.2.2.1 o ho
  · have hp := pw_le hn (h2 o ho)
    rw [show 196 * t + 49 * o + k = 196 * t + (49 * o + k) by omega, x2 _ (by omega) (by omega), y3 _ _ (by omega), stp_ne (Or.inl (by decide)), stp_ne (Or.inl (by decide)), show 196 * s + (49 * o + k) = 196 * s + 49 * o + k by omega]; exact hr.2.2.2 o ho k hk
theorem like_L {F d : Nat} {k : HF → RO} (hd : d < 8) : ∀ (m i N : Nat) (h : HF), i + m = 4 → m + 1 ≤ N → ∃ h', LX12_like_23 F 181 (d : Int) k N (i : Int) h = k h' ∧ (∀ j, i ≤ j → j < 4 → h' 186 (32 + j) = h 186 (4 * d + j)) ∧ ∀ c q, (c ≠ 186 ∨ q < 32 + i ∨ 36 ≤ q) → h' c q = h c q := by
  intro m
  induction m with
  | zero =>
    intro i N h hi hN
    obtain ⟨N, rfl⟩ : ∃ M, N = M + 1 := ⟨N - 1, by omega⟩
    rw [LX12_like_23, if_neg (by omega)]
    exact ⟨h, rfl, fun j h1 h2 => absurd h2 (by omega), fun _ _ _ => rfl⟩
  | succ m ih =>
    intro i N h hi hN
    obtain ⟨N, rfl⟩ : ∃ M, N = M + 1 := ⟨N - 1, by omega⟩
    obtain ⟨h', x1, x2, x3⟩ := ih (i + 1) N (stp h 186 (32 + i) (h 186 (4 * d + i))) (by omega) (by omega)
    refine ⟨h', ?_, fun j h1 h2 => ?_, fun c q hq => by rw [x3 c q (by omega), stp_ne (by omega)]⟩
    · rw [LX12_like_23, if_pos (by omega), wr_id (x := 4 * (d : Int)) ⟨by omega, by omega⟩, wr_id (x := 4 * (d : Int) + (i : Int)) ⟨by omega, by omega⟩, wr_id (x := 32 + (i : Int)) ⟨by omega, by omega⟩, show 4 * (d : Int) + (i : Int) = ((4 * d + i : Nat) : Int) by omega, show 32 + (i : Int) = ((32 + i : Nat) : Int) by omega, rdm5 (by omega), wtm5 (by omega), zlet_eq, wr_s (by omega)]
      exact x1
    · by_cases z : j = i
      · subst z; rw [x3 186 _ (by omega), stp_eq]
      · rw [x2 j (by omega) h2, stp_ne (by omega)]
theorem like_eq {F d n n' : Nat} {ar : List Nat} {tb : Nat → Nat → Int} {h : HF} (hF : 200 ≤ F) (hd : d < 8) (hw : WF n ar tb) (hn' : 1 ≤ n' ∧ n' ≤ 7) (hr : RepM h 184 185 186 187 d n ar tb) : ∃ h' T, fX12_like F 181 (d : Int) (n' : Int) h = some (0, h') ∧ RepM h' 184 185 186 187 8 n' ar T ∧ ∀ c q, ((c ≠ 184 ∧ c ≠ 185) ∨ q ≠ 8) → (c ≠ 186 ∨ q < 32) → (c ≠ 187 ∨ q < 1568) → h' c q = h c q := by
  have hl := hw.2.1
  obtain ⟨g, y1, y2, y3⟩ := blank_eq (F := F) (d := 8) (n := n') (v := 0) (h := h) hF (by decide) hn' (okA_zero 4)
  obtain ⟨h', x1, x2, x3⟩ := like_L (F := F) (k := fun h => some (0, h)) hd 4 0 F (stp g 185 8 (ar.length : Int)) (by omega) (by omega)
  refine ⟨h', fun o k => h' 187 (196 * 8 + 49 * o + k), ?_, ⟨?_, ?_, fun o ho => ?_, fun o ho k hk => rfl⟩, fun c q h1 h2 h3 => ?_⟩
  · unfold fX12_like
    simp only [zjn]
    rw [show fX12_blank F 181 8 (n' : Int) 0 h = some (0, g) from y1, zbd_some, rdm4 (by omega), y3 185 d (by omega) (by omega) (by omega), hr.2.1, show (8 : Int) = ((8 : Nat) : Int) from rfl, wtm4 (by decide)]
    exact x1
  · rw [x3 _ _ (by omega), stp_ne (by omega), y2.1]
  · rw [x3 _ _ (by omega), stp_eq]
  · rw [show 4 * 8 + o = 32 + o by omega, x2 o (by omega) (by omega), stp_ne (by omega), y3 _ _ (by omega) (by omega) (by omega)]; exact hr.2.2.1 o ho
  · rw [x3 c q (by omega), stp_ne (by omega), y3 c q (by omega) (by omega) (by omega)]
/-- draft and row 8, alike, into drawer t -/
theorem put_both {I6 : HF → Prop} {F t n : Nat} {hA : HF} {ar : List Nat} {T : Nat → Nat → Int} (hF : 200 ≤ F) (ht : t < 8) (hI : InvP I4d I5d I6 hA) (hw : WF n ar T) (hr : RepC hA 6 n ar T) : ∃ g, fX11_putDraft F 0 (t : Int) hA = some (0, g) ∧ RepC g 6 n ar T ∧ (∀ c k, (c < 12 ∨ 76 < c) → (c ≠ 10 ∨ (k ≠ 2 ∧ k ≠ 3)) → (c < 117 + 4 * t ∨ 120 + 4 * t < c) → g c k = hA c k) ∧ ∀ hB, (∀ c k, (c ≤ 4 ∨ (c = 8 ∧ k = 0) ∨ (10 ≤ c ∧ c ≤ 86) ∨ (117 ≤ c ∧ c ≤ 180) ∨ c = 182 ∨ c = 183 ∨ ((c = 184 ∨ c = 185) ∧ k < 8) ∨ (c = 186 ∧ k < 32) ∨ (c = 187 ∧ k < 1568) ∨ (188 ≤ c ∧ c ≤ 192) ∨ (194 ≤ c ∧ c ≤ 205) ∨ (c = 181 ∧ (k = 2 ∨ k = 4 ∨ k = 5 ∨ k = 15 ∨ k = 16))) → hB c k = g c k) → RepM hB 184 185 186 187 8 n ar T → ∃ h3 h4, fX12_keep F 181 (t : Int) hB = some (0, h3) ∧ fX12_copy F 181 8 (t : Int) h3 = some (0, h4) ∧ InvP I4d I5d I6 h4 ∧ RepM h4 184 185 186 187 t n ar T ∧ RepC h4 (117 + 4 * t) n ar T := by
  obtain ⟨g, eg, rg6, rg, fg, K⟩ := put_draft (F := F) (d := t) (h := hA) hF ht (I5d_get hI.2.2.2.2.1) (I4d_get hI.2.2.2.1 ht) hw hr
  refine ⟨g, eg, rg6, fg, fun hB e hm => ?_⟩
  obtain ⟨h3, e3, k3, i5⟩ := K hB (fun c k x => by have := S5_out x; exact e c k (by omega)) (by rw [e _ _ (by omega), fg _ _ (by omega) (by omega) (by omega)]) (by rw [e _ _ (by omega), fg _ _ (by omega) (by omega) (by omega)]) (fun o _ => by rw [e _ _ (by omega), fg _ _ (by omega) (by omega) (by omega)]) (fun o _ => by rw [e _ _ (by omega), fg _ _ (by omega) (by omega) (by omega)])
  have m3 : RepM h3 184 185 186 187 8 n ar T := RepM_keep (fun k => ⟨k3 _ _ (by omega) (by omega), k3 _ _ (by omega) (by omega), k3 _ _ (by omega) (by omega), k3 _ _ (by omega) (by omega)⟩) hm
  obtain ⟨h4, e4, m4, f4⟩ := mcopy (F := F) (s := 8) (t := t) (h := h3) hF (by decide) (by omega) (by omega) hw.2.1 hw.1.2 hw.2.2.1 m3
  have rc : RepC h4 (117 + 4 * t) n ar T := RepC_keep (fun i k hi => by rw [f4 _ _ (by omega) (by omega) (by omega), k3 _ _ (by omega) (by omega), e _ _ (by omega)]) rg
  refine ⟨h3, h4, e3, e4, Inv_drw hI ?_ ht (Or.inr ⟨n, ar, T, hw, rc, m4⟩) ?_, m4, rc⟩
  · intro c k x
    rw [f4 _ _ (by omega) (by omega) (by omega), k3 _ _ (by omega) (by omega), e _ _ (by omega), fg _ _ (by omega) (by omega) (by omega)]
  · exact I5d_congr (fun c k x => by have := S5_out x; exact f4 _ _ (by omega) (by omega) (by omega)) i5
