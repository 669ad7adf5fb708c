/-! the reference's next table -/
section NT
variable {F n : Nat} {ar : List Nat}
theorem upd_line {L : List Nat} {o l x : Nat} (ho : o < ar.length) (hk : l < pw n (ar.getD o 0)) (hl : L.length = sto n ar ar.length) : ∀ o', o' < ar.length → ∀ k, k < pw n (ar.getD o' 0) → updT (tbL n ar L) o l (x : Int) o' k = tbL n ar (L.set (sto n ar o + l) x) o' k := by
  intro o' ho' k hk'
  have t1 := sto_tot (n := n) ho hk
  unfold updT
  by_cases q : o' = o ∧ k = l
  · rw [if_pos q]
    obtain ⟨rfl, rfl⟩ := q
    unfold tbL
    rw [gset (by omega), if_pos rfl]
  · rw [if_neg q]
    unfold tbL
    rw [gset (by omega), if_neg (fun z => q (sto_inj hk' hk z))]
theorem avT_m (hF : 5 ≤ F) (hn : 1 ≤ n ∧ n ≤ 7) (hl : ar.length ≤ 4) (h2 : ∀ o, o < ar.length → ar.getD o 0 ≤ 2) {k56 : Int → HF → RO} : ∀ (v N : Nat) (h : HF) (L : List Nat), v ≤ L.length → L.length = sto n ar ar.length → (∀ y ∈ L, y < n) → v + 1 ≤ N → RepM h 184 185 186 187 9 n ar (tbL n ar L) → (∃ (h' : HF) (L1 : List Nat) (w : Nat), LX12_nextTable_9 F 181 k56 N ((v : Int) - 1) h = k56 (w : Int) h' ∧ w < L.length ∧ RepM h' 184 185 186 187 9 n ar (tbL n ar L1) ∧ L1.length = L.length ∧ (∀ y ∈ L1, y < n) ∧ avT n L v = some (L1.set w (L1.getD w 0 + 1)) ∧ ∀ c i, (c ≠ 187 ∨ i < 1764) → h' c i = h c i) ∨ (∃ h' : HF, LX12_nextTable_9 F 181 k56 N ((v : Int) - 1) h = k56 (-1) h' ∧ avT n L v = none ∧ ∀ c i, (c ≠ 187 ∨ i < 1764) → h' c i = h c i) := by
  intro v
  induction v with
  | zero =>
    intro N h L hv hL6 hL hN hr
    obtain ⟨N, rfl⟩ : ∃ M, N = M + 1 := ⟨N - 1, by omega⟩
    exact .inr ⟨h, by rw [LX12_nextTable_9, if_pos (by omega)]; rfl, rfl, fun _ _ _ => rfl⟩
  | succ v ih =>
    intro N h L hv hL6 hL hN hr
    obtain ⟨N, rfl⟩ : ∃ M, N = M + 1 := ⟨N - 1, by omega⟩
    have hw : WF n ar (tbL n ar L) := WF_tbL hn hl h2 hL
    have stt := sto_le hn.2 h2 ar.length (Nat.le_refl _)
    have hx := hL _ (mem_gd (l := L) (i := v) (by omega))
    obtain ⟨o, l, c1, c2, c3, c4⟩ := lineAt_eq (F := F) (d := 9) hF (by omega) hw hr (i := v) (by omega)
    have h49 := pw_le hn.2 (h2 o c1)
    have c4' : fX12_lineAt F 181 9 (v : Int) h = some (((196 * 9 + 49 * o + l : Nat) : Int), h) := c4
    have val : h 187 (196 * 9 + 49 * o + l) = ((L.getD v 0 : Nat) : Int) := by rw [hr.2.2.2 o c1 l c2]; unfold tbL; rw [← c3]
    have st : LX12_nextTable_9 F 181 k56 (N + 1) (((v + 1 : Nat) : Int) - 1) h = if L.getD v 0 + 1 < n then k56 (v : Int) h else LX12_nextTable_9 F 181 k56 N ((v : Int) - 1) (stp h 187 (196 * 9 + 49 * o + l) 0) := by
      have rd9 : ∀ (f : Int → RO), zrd h (181 + 3) 9 f = f (h 184 9) := fun f => rdm3 (i := 9) (by omega)
      rw [LX12_nextTable_9, if_neg (by omega), show ((v + 1 : Nat) : Int) - 1 = (v : Int) by omega, c4', zbd_some, rdm6 (by omega), val, rd9, hr.1, wr_id (x := (n : Int) - 1) ⟨by omega, by omega⟩]
      by_cases q : L.getD v 0 + 1 < n
      · rw [if_neg (by omega), if_pos q]
      · rw [if_pos (by omega), if_neg q, c4', zbd_some, wtm6 (by omega), zlet_eq, wr_id ⟨by omega, by omega⟩]; rfl
    rw [st, avT_s]
    by_cases q : L.getD v 0 + 1 < n
    · rw [if_pos q, if_pos q]
      exact .inl ⟨h, L, v, rfl, by omega, hr, rfl, hL, rfl, fun _ _ _ => rfl⟩
    · rw [if_neg q, if_neg q]
      have hr1 : RepM (stp h 187 (196 * 9 + 49 * o + l) 0) 184 185 186 187 9 n ar (tbL n ar (L.set v 0)) := by
        have := RepM_put (v := ((0 : Nat) : Int)) hw c1 c2 hr
        have e := upd_line (x := 0) c1 c2 hL6
        rw [← c3] at e
        exact RepM_ext e this
      rcases ih N (stp h 187 (196 * 9 + 49 * o + l) 0) (L.set v 0) (by rw [List.length_set]; omega) (by rw [List.length_set]; omega) (set_lt hL (by omega)) (by omega) hr1 with ⟨h', L1, w, a1, a2, a3, a4, a5, a6, a7⟩ | ⟨h', a1, a2, a3⟩
      · rw [List.length_set] at a2 a4
        exact .inl ⟨h', L1, w, a1, a2, a3, a4, a5, a6, fun c i hc => (a7 c i hc).trans (stp_ne (by omega))⟩
      · exact .inr ⟨h', a1, a2, fun c i hc => (a3 c i hc).trans (stp_ne (by omega))⟩
theorem nextTable_m {c : Nat} {h : HF} (hF : 200 ≤ F) (hn : 1 ≤ n ∧ n ≤ 7) (hl : ar.length ≤ 4) (h2 : ∀ o, o < ar.length → ar.getD o 0 ≤ 2) (hc : c < n ^ sto n ar ar.length) (hr : RepM h 184 185 186 187 9 n ar (TB n ar c)) : ∃ h', (∀ x i, (x ≠ 187 ∨ i < 1764) → h' x i = h x i) ∧ ((c + 1 < n ^ sto n ar ar.length ∧ fX12_nextTable F 181 h = some (1, h') ∧ RepM h' 184 185 186 187 9 n ar (TB n ar (c + 1))) ∨ (c + 1 = n ^ sto n ar ar.length ∧ fX12_nextTable F 181 h = some (0, h'))) := by
  have hw := TB_WF hn hl h2 hc
  have st := sto_le hn.2 h2 ar.length (Nat.le_refl _)
  have ll : (dg n (sto n ar ar.length) c).length = sto n ar ar.length := dg_len _ _
  have lv := dg_lt hn.1 _ _ hc
  have nc := nm_dg hn.1 _ _ hc
  obtain ⟨L, hLe⟩ : ∃ L, L = dg n (sto n ar ar.length) c := ⟨_, rfl⟩
  have hr' : RepM h 184 185 186 187 9 n ar (tbL n ar L) := by rw [hLe]; exact hr
  rw [← hLe] at ll lv nc
  obtain ⟨A1, A2⟩ := avT_nm hn.1 L.length L (Nat.le_refl _) lv
  rw [Nat.sub_self, Nat.pow_zero, nc, ll] at A1 A2
  have go : fX12_nextTable F 181 h = LX12_nextTable_9 F 181 (fun (x : Int) (h : HF) => if x < 0 then zrz 0 h else zbd (fX12_lineAt F 181 9 x h) fun r3 h => zrd h (181 + 6) r3 fun x4 => zwr h (181 + 6) r3 (wr (x4 + 1)) fun h => zrz 1 h) F (((sto n ar ar.length : Nat) : Int) - 1) h := by
    unfold fX12_nextTable
    have cc : fX12_cellsOf F 181 9 h = some (((sto n ar ar.length : Nat) : Int), h) := cellsOf_eq (d := 9) (by omega) (by omega) hw hr
    rw [cc, zbd_some, zlet_eq, zjn_eq, wr_id ⟨by omega, by omega⟩]
  rcases avT_m (F := F) (by omega) hn hl h2 (k56 := fun (x : Int) (h : HF) => if x < 0 then zrz 0 h else zbd (fX12_lineAt F 181 9 x h) fun r3 h => zrd h (181 + 6) r3 fun x4 => zwr h (181 + 6) r3 (wr (x4 + 1)) fun h => zrz 1 h) (sto n ar ar.length) F h L (by omega) ll lv (by omega) hr' with ⟨h', L1, w, a1, a2, a3, a4, a5, a6, a7⟩ | ⟨h', a1, a2, a3⟩
  · obtain ⟨b1, b2, b3⟩ := A1 _ a6
    have b4 := nm_lt (B := n) _ b2
    rw [b1, b3] at b4
    have hw1 : WF n ar (tbL n ar L1) := WF_tbL hn hl h2 a5
    obtain ⟨o, l, c1, c2, c3, c4⟩ := lineAt_eq (F := F) (d := 9) (by omega) (by omega) hw1 a3 (i := w) (by omega)
    have c4' : fX12_lineAt F 181 9 (w : Int) h' = some (((196 * 9 + 49 * o + l : Nat) : Int), h') := c4
    have h49 := pw_le hn.2 (h2 o c1)
    have hx := a5 _ (mem_gd (l := L1) (i := w) (by omega))
    have val : h' 187 (196 * 9 + 49 * o + l) = ((L1.getD w 0 : Nat) : Int) := by rw [a3.2.2.2 o c1 l c2]; unfold tbL; rw [← c3]
    refine ⟨stp h' 187 (196 * 9 + 49 * o + l) ((L1.getD w 0 + 1 : Nat) : Int), fun x i hx => by rw [stp_ne (by omega), a7 x i hx], .inl ⟨b4, ?_, ?_⟩⟩
    · rw [go]
      refine a1.trans ?_
      show (if (w : Int) < 0 then zrz 0 h' else _) = _
      rw [if_neg (by omega), c4', zbd_some, rdm6 (by omega), val, wr_id ⟨by omega, by omega⟩, wtm6 (by omega)]
      rfl
    · have e : TB n ar (c + 1) = tbL n ar (L1.set w (L1.getD w 0 + 1)) := by
        unfold TB
        rw [← b3]
        have := dg_nm (B := n) hn.1 _ b2
        rw [b1] at this
        rw [this]
      rw [e]
      have pt := RepM_put (v := ((L1.getD w 0 + 1 : Nat) : Int)) hw1 c1 c2 a3
      have e2 := upd_line (x := L1.getD w 0 + 1) c1 c2 (L := L1) (by omega)
      rw [← c3] at e2
      exact RepM_ext e2 pt
  · have := A2 a2
    exact ⟨h', a3, .inr ⟨by omega, by rw [go]; exact a1⟩⟩
end NT
