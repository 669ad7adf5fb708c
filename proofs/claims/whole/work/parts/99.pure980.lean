/-! the reference finds the least line, and asks whether a table is the least -/
section FL
variable {F n d : Nat} {ar : List Nat} {tb : Nat → Nat → Int}
theorem inv_id (hn : 1 ≤ n ∧ n ≤ 7) : invL n (List.range n) = List.range n := by
  refine VL_ext (n := n) (by simp [invL]) List.length_range fun i hi => ?_
  rw [inv_get hi, iv_range hn.1 hn.2 hi, gd_range hi]
theorem first_m (hn : n ≤ 7) {k20 : HF → RO} : ∀ (m i N : Nat) (h : HF), i + m = n → m + 1 ≤ N → (∀ j, j < i → h 211 j = (j : Int)) → ∃ h', LX12_firstNames_2 F 181 (n : Int) k20 N (i : Int) h = k20 h' ∧ (∀ j, j < n → h' 211 j = (j : Int)) ∧ ∀ c k, c ≠ 211 → h' c k = h c k := by
  intro m
  induction m with
  | zero =>
    intro i N h hi hN hV
    obtain ⟨N, rfl⟩ : ∃ M, N = M + 1 := ⟨N - 1, by omega⟩
    exact ⟨h, by rw [LX12_firstNames_2, if_neg (by omega)], fun j hj => hV j (by omega), fun _ _ _ => rfl⟩
  | succ m ih =>
    intro i N h hi hN hV
    obtain ⟨N, rfl⟩ : ∃ M, N = M + 1 := ⟨N - 1, by omega⟩
    obtain ⟨h', e1, e2, e3⟩ := ih (i + 1) N (stp h 211 i (i : Int)) (by omega) (by omega) (fun j hj => by
      by_cases z : j = i
      · subst z; exact stp_eq ..
      · rw [stp_ne (by omega)]; exact hV j (by omega))
    refine ⟨h', ?_, e2, fun c k hc => (e3 c k hc).trans (stp_ne (by omega))⟩
    rw [LX12_firstNames_2, if_pos (by omega), wtm30 (by omega), zlet_eq, wr_id ⟨by omega, by omega⟩]
    exact e1
theorem firstNames_m {h : HF} (hF : 9 ≤ F) (hn : n ≤ 7) : ∃ h', fX12_firstNames F 181 (n : Int) h = some (0, h') ∧ LN h' 211 (List.range n) ∧ ∀ c k, c ≠ 211 → h' c k = h c k := by
  obtain ⟨h', e1, e2, e3⟩ := first_m (F := F) hn (k20 := fun h => some (0, h)) n 0 F h (by omega) (by omega) (fun j hj => by omega)
  refine ⟨h', ?_, fun i hi => ?_, e3⟩
  · unfold fX12_firstNames; rw [zjn_eq]; exact e1
  · rw [List.length_range] at hi; rw [e2 i hi, gd_range hi]
theorem fl_L (hF : 9 ≤ F) (hd : d < 10) (hw : WF n ar tb) {k56 : HF → RO} : ∀ (M N : Nat) (s q : List Nat) (h : HF), M ≤ N → sqE (nxP n) M s = true → IsP n s → IsP n q → RepM h 184 185 186 187 d n ar tb → LN h 211 s → LN h 213 (lnL tb n ar q) → ∃ (h' : HF) (q' : List Nat), LX12_findLeast_19 F 181 (d : Int) k56 N h = k56 h' ∧ IsP n q' ∧ LN h' 213 (lnL tb n ar q') ∧ wT tb n ar q' ≤ wT tb n ar q ∧ (∀ x ∈ sq (nxP n) M s, x = s ∨ wT tb n ar q' ≤ wT tb n ar (invL n x)) ∧ ∀ c i, (c < 211 ∨ 213 < c) → h' c i = h c i := by
  have hn := hw.1
  intro M
  induction M with
  | zero => intro N s q h _ hE; rw [sqE] at hE; exact absurd hE (by decide)
  | succ M ih =>
    intro N s q h hN hE hs hq hr hL h3
    obtain ⟨N, rfl⟩ : ∃ M, N = M + 1 := ⟨N - 1, by omega⟩
    obtain ⟨h1, n1, n2, n3⟩ := next_m (F := F) hF hn.1 hn.2 hs hL
    rw [LX12_findLeast_19, rdm3 (by omega), hr.1, n1, zbd_some]
    rw [sqE] at hE
    rw [sq]
    cases e : nxP n s with
    | none =>
      rw [bi_isSome_none, if_pos rfl]
      exact ⟨h1, q, rfl, hq, LN_keep (fun i => n3 _ _ (by omega)) h3, Nat.le_refl _, fun x hx => .inl (List.mem_singleton.mp hx), fun c i hc => n3 _ _ (by omega)⟩
    | some s' =>
      rw [e] at hE
      have hs' := (nxP_P hs e).1
      have hi' := IsP_inv hn.2 hs'
      rw [bi_isSome_some, if_neg (by decide)]
      have hr1 : RepM h1 184 185 186 187 d n ar tb := RepM_off (fun c i hc => n3 _ _ (by omega)) hr
      have h31 : LN h1 213 (lnL tb n ar q) := LN_keep (fun i => n3 _ _ (by omega)) h3
      obtain ⟨r, h2, c1, c2, c3⟩ := compare_m (F := F) (X := 213) hF (.inl rfl) hd hw hs' hr1 (n2 s' e) h31 (lnL_len hw.2.2.1)
      have c1' : fX12_compare F 181 (d : Int) (181 + 32) h1 = some (r, h2) := c1
      rw [c1', zbd_some]
      have hr2 : RepM h2 184 185 186 187 d n ar tb := RepM_off (fun c i hc => c3 _ _ (by omega)) hr1
      have hL2 : LN h2 211 s' := LN_keep (fun i => c3 _ _ (by omega)) (n2 s' e)
      have w1 := (wT_cmp hw hi' hq).1
      have big : ∃ (h3 : HF) (q1 : List Nat), (if r < 0 then zbd (fX12_lay F 181 (d : Int) (181 + 32) h2) fun _ h => LX12_findLeast_19 F 181 (d : Int) k56 N h else LX12_findLeast_19 F 181 (d : Int) k56 N h2) = LX12_findLeast_19 F 181 (d : Int) k56 N h3 ∧ IsP n q1 ∧ LN h3 213 (lnL tb n ar q1) ∧ wT tb n ar q1 ≤ wT tb n ar q ∧ wT tb n ar q1 ≤ wT tb n ar (invL n s') ∧ RepM h3 184 185 186 187 d n ar tb ∧ LN h3 211 s' ∧ ∀ c i, (c < 211 ∨ 213 < c) → h3 c i = h2 c i := by
        by_cases z : r < 0
        · obtain ⟨h3, l1, l2, l3⟩ := lay_m (F := F) (X := 213) hF (.inl rfl) hd hw hs' hr2 hL2
          have l1' : fX12_lay F 181 (d : Int) (181 + 32) h2 = some (0, h3) := l1
          refine ⟨h3, invL n s', by rw [if_pos z, l1', zbd_some], hi', l2, by have := w1.mp (c2.mp z); omega, Nat.le_refl _, RepM_off (fun c i hc => l3 _ _ (by omega)) hr2, LN_keep (fun i => l3 _ _ (by omega)) hL2, fun c i hc => l3 _ _ (by omega)⟩
        · refine ⟨h2, q, by rw [if_neg z], hq, LN_keep (fun i => c3 _ _ (by omega)) h31, Nat.le_refl _, ?_, hr2, hL2, fun _ _ _ => rfl⟩
          by_cases w : wT tb n ar (invL n s') < wT tb n ar q
          · exact absurd (c2.mpr (w1.mpr w)) z
          · omega
      obtain ⟨h3', q1, b1, b2, b3, b4, b5, b6, b7, b8⟩ := big
      rw [b1]
      obtain ⟨h', q', i1, i2, i3, i4, i5, i6⟩ := ih N s' q1 h3' (by omega) hE hs' b2 b6 b7 b3
      refine ⟨h', q', i1, i2, i3, by omega, fun x hx => ?_, fun c i hc => by rw [i6 c i hc, b8 c i hc, c3 c i (by omega), n3 c i (by omega)]⟩
      rcases List.mem_cons.mp hx with w | w
      · exact .inl w
      · rcases i5 x w with z | z
        · right; rw [z]; omega
        · exact .inr z
theorem findLeast_m {h : HF} (hF : 5041 ≤ F) (hd : d < 10) (hw : WF n ar tb) (hr : RepM h 184 185 186 187 d n ar tb) : ∃ (h' : HF) (q : List Nat), fX12_findLeast F 181 (d : Int) h = some (0, h') ∧ IsP n q ∧ LN h' 213 (lnL tb n ar q) ∧ (∀ x, IsP n x → wT tb n ar q ≤ wT tb n ar x) ∧ ∀ c i, (c < 211 ∨ 213 < c) → h' c i = h c i := by
  have hn := hw.1
  obtain ⟨p1, p2, p3, p4⟩ := PL_all hn
  obtain ⟨h1, a1, a2, a3⟩ := firstNames_m (F := F) (h := h) (by omega) hn.2
  have hr1 : RepM h1 184 185 186 187 d n ar tb := RepM_off (fun c i hc => a3 _ _ (by omega)) hr
  obtain ⟨h2, b1, b2, b3⟩ := lay_m (F := F) (X := 213) (by omega) (.inl rfl) hd hw (IsP_id hn.1) hr1 a2
  have b1' : fX12_lay F 181 (d : Int) (181 + 32) h1 = some (0, h2) := b1
  rw [inv_id hn] at b2
  obtain ⟨h', q, i1, i2, i3, i4, i5, i6⟩ := fl_L (F := F) (by omega) hd hw (k56 := fun h => some (0, h)) 5040 F (List.range n) (List.range n) h2 (by omega) p4 (IsP_id hn.1) (IsP_id hn.1) (RepM_off (fun c i hc => b3 _ _ (by omega)) hr1) (LN_keep (fun i => b3 _ _ (by omega)) a2) b2
  refine ⟨h', q, ?_, i2, i3, fun x hx => ?_, fun c i hc => by rw [i6 c i hc, b3 c i (by omega), a3 c i (by omega)]⟩
  · unfold fX12_findLeast
    rw [rdm3 (by omega), hr.1, a1, zbd_some, b1', zbd_some, zjn_eq]
    exact i1
  · have hx' := IsP_inv hn.2 hx
    rcases i5 (invL n x) ((p2 _).mpr hx') with z | z
    · have : x = List.range n := by rw [← inv_inv hn.2 hx, z, inv_id hn]
      rw [this]; exact i4
    · rwa [inv_inv hn.2 hx] at z
theorem il_L (hF : 9 ≤ F) (hd : d < 10) (hw : WF n ar tb) {q : List Nat} (hq : IsP n q) {k46 k44 : HF → RO} : ∀ (M N : Nat) (s : List Nat) (h : HF), M ≤ N → sqE (nxP n) M s = true → IsP n s → RepM h 184 185 186 187 d n ar tb → LN h 211 s → LN h 214 (lnL tb n ar q) → ∃ (h' : HF), ((LX12_isLeast_19 F 181 (d : Int) k46 k44 N h = k46 h' ∧ (∀ x ∈ sq (nxP n) M s, x = s ∨ wT tb n ar q ≤ wT tb n ar (invL n x))) ∨ (LX12_isLeast_19 F 181 (d : Int) k46 k44 N h = k44 h' ∧ ∃ x, IsP n x ∧ wT tb n ar x < wT tb n ar q)) ∧ ∀ c i, (c ≠ 211 ∧ c ≠ 212) → h' c i = h c i := by
  have hn := hw.1
  intro M
  induction M with
  | zero => intro N s h _ hE; rw [sqE] at hE; exact absurd hE (by decide)
  | succ M ih =>
    intro N s h hN hE hs hr hL h3
    obtain ⟨N, rfl⟩ : ∃ M, N = M + 1 := ⟨N - 1, by omega⟩
    obtain ⟨h1, n1, n2, n3⟩ := next_m (F := F) hF hn.1 hn.2 hs hL
    rw [LX12_isLeast_19, rdm3 (by omega), hr.1, n1, zbd_some]
    rw [sqE] at hE
    rw [sq]
    cases e : nxP n s with
    | none =>
      rw [bi_isSome_none, if_pos rfl]
      exact ⟨h1, .inl ⟨rfl, fun x hx => .inl (List.mem_singleton.mp hx)⟩, fun c i hc => n3 _ _ (by omega)⟩
    | some s' =>
      rw [e] at hE
      have hs' := (nxP_P hs e).1
      have hi' := IsP_inv hn.2 hs'
      rw [bi_isSome_some, if_neg (by decide)]
      have hr1 : RepM h1 184 185 186 187 d n ar tb := RepM_off (fun c i hc => n3 _ _ (by omega)) hr
      have h31 : LN h1 214 (lnL tb n ar q) := LN_keep (fun i => n3 _ _ (by omega)) h3
      obtain ⟨r, h2, c1, c2, c3⟩ := compare_m (F := F) (X := 214) hF (.inr rfl) hd hw hs' hr1 (n2 s' e) h31 (lnL_len hw.2.2.1)
      have c1' : fX12_compare F 181 (d : Int) (181 + 33) h1 = some (r, h2) := c1
      rw [c1', zbd_some]
      have w1 := (wT_cmp hw hi' hq).1
      by_cases z : r < 0
      · rw [if_pos z]
        exact ⟨h2, .inr ⟨rfl, _, hi', w1.mp (c2.mp z)⟩, fun c i hc => (c3 c i (by omega)).trans (n3 c i (by omega))⟩
      · rw [if_neg z]
        obtain ⟨h', i1, i2⟩ := ih N s' h2 (by omega) hE hs' (RepM_off (fun c i hc => c3 _ _ (by omega)) hr1) (LN_keep (fun i => c3 _ _ (by omega)) (n2 s' e)) (LN_keep (fun i => c3 _ _ (by omega)) h31)
        refine ⟨h', ?_, fun c i hc => by rw [i2 c i hc, c3 c i (by omega), n3 c i (by omega)]⟩
        rcases i1 with ⟨j1, j2⟩ | j
        · refine .inl ⟨j1, fun x hx => ?_⟩
          rcases List.mem_cons.mp hx with w | w
          · exact .inl w
          · rcases j2 x w with y | y
            · right; rw [y]
              by_cases w : wT tb n ar (invL n s') < wT tb n ar q
              · exact absurd (c2.mpr (w1.mpr w)) z
              · omega
            · exact .inr y
        · exact .inr j
theorem isLeast_m {h : HF} (hF : 5041 ≤ F) (hd : d < 10) (hw : WF n ar tb) (hr : RepM h 184 185 186 187 d n ar tb) : ∃ (h' : HF), ((fX12_isLeast F 181 (d : Int) h = some (1, h') ∧ (∀ x, IsP n x → wT tb n ar (List.range n) ≤ wT tb n ar x)) ∨ (fX12_isLeast F 181 (d : Int) h = some (0, h') ∧ ∃ x, IsP n x ∧ wT tb n ar x < wT tb n ar (List.range n))) ∧ ∀ c i, (c < 211 ∨ 214 < c) → h' c i = h c i := by
  have hn := hw.1
  obtain ⟨p1, p2, p3, p4⟩ := PL_all hn
  obtain ⟨h1, a1, a2, a3⟩ := firstNames_m (F := F) (h := h) (by omega) hn.2
  have hr1 : RepM h1 184 185 186 187 d n ar tb := RepM_off (fun c i hc => a3 _ _ (by omega)) hr
  obtain ⟨h2, b1, b2, b3⟩ := lay_m (F := F) (X := 214) (by omega) (.inr rfl) hd hw (IsP_id hn.1) hr1 a2
  have b1' : fX12_lay F 181 (d : Int) (181 + 33) h1 = some (0, h2) := b1
  rw [inv_id hn] at b2
  obtain ⟨h', i1, i2⟩ := il_L (F := F) (by omega) hd hw (IsP_id hn.1) (k46 := fun h => zrz 1 h) (k44 := fun h => zrz 0 h) 5040 F (List.range n) h2 (by omega) p4 (IsP_id hn.1) (RepM_off (fun c i hc => b3 _ _ (by omega)) hr1) (LN_keep (fun i => b3 _ _ (by omega)) a2) b2
  have go : fX12_isLeast F 181 (d : Int) h = LX12_isLeast_19 F 181 (d : Int) (fun h => zrz 1 h) (fun h => zrz 0 h) F h2 := by
    unfold fX12_isLeast
    rw [rdm3 (by omega), hr.1, a1, zbd_some, b1', zbd_some, zjn_eq, zjn_eq]
  refine ⟨h', ?_, fun c i hc => by rw [i2 c i (by omega), b3 c i (by omega), a3 c i (by omega)]⟩
  rcases i1 with ⟨j1, j2⟩ | ⟨j1, j2⟩
  · refine .inl ⟨go.trans j1, fun x hx => ?_⟩
    have hx' := IsP_inv hn.2 hx
    rcases j2 (invL n x) ((p2 _).mpr hx') with z | z
    · have : x = List.range n := by rw [← inv_inv hn.2 hx, z, inv_id hn]
      rw [this]; omega
    · rwa [inv_inv hn.2 hx] at z
  · exact .inr ⟨go.trans j1, j2⟩
/-- a line is put into the table -/
theorem put_L {L : List Nat} (hF : 5 ≤ F) (hd : d < 10) (h2 : ∀ o, o < ar.length → ar.getD o 0 ≤ 2) (hL6 : L.length = sto n ar ar.length) (hv : ∀ x ∈ L, x < n) {k37 : HF → RO} : ∀ (m i N : Nat) (h : HF) (T : Nat → Nat → Int), i + m = sto n ar ar.length → m + 1 ≤ N → WF n ar T → RepM h 184 185 186 187 d n ar T → LN h 213 L → (∀ o k, o < ar.length → k < pw n (ar.getD o 0) → sto n ar o + k < i → T o k = tbL n ar L o k) → ∃ (h' : HF), LX12_putLine_9 F 181 (d : Int) (181 + 32) ((sto n ar ar.length : Nat) : Int) k37 N (i : Int) h = k37 h' ∧ RepM h' 184 185 186 187 d n ar (tbL n ar L) ∧ ∀ c k, (c ≠ 187 ∨ k < 196 * d ∨ 196 * d + 196 ≤ k) → h' c k = h c k := by
  intro m
  induction m with
  | zero =>
    intro i N h T hi hN hw hr hL hT
    obtain ⟨N, rfl⟩ : ∃ M, N = M + 1 := ⟨N - 1, by omega⟩
    refine ⟨h, by rw [LX12_putLine_9, if_neg (by omega)], RepM_ext (fun o ho k hk => hT o k ho hk (by have := sto_tot (n := n) ho hk; omega)) hr, fun _ _ _ => rfl⟩
  | succ m ih =>
    intro i N h T hi hN hw hr hL hT
    obtain ⟨N, rfl⟩ : ∃ M, N = M + 1 := ⟨N - 1, by omega⟩
    obtain ⟨o, l, c1, c2, c3, c4⟩ := lineAt_eq (F := F) hF hd hw hr (i := i) (by omega)
    have stt := sto_le hw.1.2 hw.2.2.1 ar.length (Nat.le_refl _)
    have h49 := pw_le hw.1.2 (h2 o c1)
    have hl4 := hw.2.1
    have hvi := hv _ (mem_gd (l := L) (i := i) (by omega))
    obtain ⟨h', e1, e2, e3⟩ := ih (i + 1) N (stp h 187 (196 * d + 49 * o + l) ((L.getD i 0 : Nat) : Int)) (updT T o l ((L.getD i 0 : Nat) : Int)) (by omega) (by omega) ⟨hw.1, hw.2.1, hw.2.2.1, fun o' ho' k hk => by
        unfold updT
        by_cases z : o' = o ∧ k = l
        · rw [if_pos z]; omega
        · rw [if_neg z]; exact hw.2.2.2 o' ho' k hk⟩ (RepM_put hw c1 c2 hr) (LN_keep (fun k => stp_ne (by omega)) hL) (fun o' k ho' hk hlt => by
        unfold updT
        by_cases z : o' = o ∧ k = l
        · rw [if_pos z]; obtain ⟨rfl, rfl⟩ := z; unfold tbL; rw [← c3]
        · rw [if_neg z]
          refine hT o' k ho' hk ?_
          by_cases y : sto n ar o' + k = i
          · exact absurd (sto_inj hk c2 (y.trans c3)) z
          · omega)
    refine ⟨h', ?_, e2, fun c k hc => (e3 c k hc).trans (stp_ne (by omega))⟩
    rw [LX12_putLine_9, if_pos (by omega), c4, zbd_some]
    have rx : ∀ (h : HF) (f : Int → RO), zrd h (181 + 32) (i : Int) f = f (h 213 i) := fun h f => rdX (X := 213) (.inl rfl) (by omega)
    rw [rx, hL i (by omega), wtm6 (by omega), zlet_eq, wr_id ⟨by omega, by omega⟩]
    exact e1
theorem putLine_m {L : List Nat} {h : HF} (hF : 200 ≤ F) (hd : d < 10) (hw : WF n ar tb) (hL6 : L.length = sto n ar ar.length) (hv : ∀ x ∈ L, x < n) (hr : RepM h 184 185 186 187 d n ar tb) (hL : LN h 213 L) : ∃ h', fX12_putLine F 181 (d : Int) (181 + 32) h = some (0, h') ∧ RepM h' 184 185 186 187 d n ar (tbL n ar L) ∧ ∀ c k, (c ≠ 187 ∨ k < 196 * d ∨ 196 * d + 196 ≤ k) → h' c k = h c k := by
  have stt := sto_le hw.1.2 hw.2.2.1 ar.length (Nat.le_refl _)
  have hl4 := hw.2.1
  obtain ⟨h', e1, e2, e3⟩ := put_L (F := F) (by omega) hd hw.2.2.1 hL6 hv (k37 := fun h => some (0, h)) (sto n ar ar.length) 0 F h tb (by omega) (by omega) hw hr hL (fun o k _ _ z => by omega)
  refine ⟨h', ?_, e2, e3⟩
  unfold fX12_putLine
  rw [cellsOf_eq (by omega) hd hw hr, zbd_some, zjn_eq]
  exact e1
end FL
