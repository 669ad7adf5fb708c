/-! the class asks whether a table is the least of its kind -/
section S1
variable {F n A : Nat} {ar : List Nat} {tb : Nat → Nat → Int}
theorem sk1 (hF : 9 ≤ F) (hA : A + 3 < 105 ∨ 109 < A) (hk : kt A = 0 + 3) (hw : WF n ar tb) {q : List Nat} (hq : IsP n q) {k121 : Int → HF → RO} {k76 : HF → RO} : ∀ (M N : Nat) (p : List Nat) (v3 : Int) (cnt v5 : Nat) (h : HF), v5 + M = 5040 → M + 1 ≤ N → sqE (nxP n) M p = true → IsP n p → CSt h A n ar tb p q → h 105 2 = (cnt : Int) → cnt ≤ v5 → ∃ (h' : HF), ((LX6_seek_45 F 105 A 1 k121 k76 N v3 1 (v5 : Int) h = k76 h' ∧ ∃ x, IsP n x ∧ wT tb n ar x < wT tb n ar q ∧ -1 ≤ h' 105 3 ∧ h' 105 3 < (sto n ar ar.length : Int) ∧ ∀ tb', WF n ar tb' → AG n ar tb tb' (h' 105 3) → wT tb' n ar x < wT tb' n ar q) ∨ (LX6_seek_45 F 105 A 1 k121 k76 N v3 1 (v5 : Int) h = k121 v3 h' ∧ (∀ x ∈ sq (nxP n) M p, wT tb n ar q ≤ wT tb n ar x) ∧ h' 105 2 = ((cnt + (sq (nxP n) M p).countP (fun x => decide (wT tb n ar x = wT tb n ar q)) : Nat) : Int))) ∧ ∀ c i, (c < 105 ∨ 109 < c) → h' c i = h c i := by
  have hn := hw.1
  intro M
  induction M with
  | zero => intro N p v3 cnt v5 h _ _ hE; rw [sqE] at hE; exact absurd hE (by decide)
  | succ M ih =>
    intro N p v3 cnt v5 h hv hN hE hp hC h2 hc
    obtain ⟨N, rfl⟩ : ∃ M, N = M + 1 := ⟨N - 1, by omega⟩
    obtain ⟨R, h1, r1, r2, r3, r4, r5, r6⟩ := compare_c (F := F) (by omega) hA hk hw hp hq hC
    obtain ⟨c1, c2, c3⟩ := wT_cmp hw hp hq
    have hC1 : CSt h1 A n ar tb p q := CSt_keep hA (fun c i hc => r4 c i (.inl hc)) hC
    have st : LX6_seek_45 F 105 A 1 k121 k76 (N + 1) v3 1 (v5 : Int) h = (if cmpL (lnL tb n ar p) (lnL tb n ar q) < 0 then k76 h1 else if cmpL (lnL tb n ar p) (lnL tb n ar q) = 0 then (zgf h1 105 2 fun x7 => zpf h1 105 2 (wr (x7 + 1)) fun h => zgf h A 0 fun x3 => zbd (fX6_nextNumbering F 105 x3 h) fun r4 h => LX6_seek_45 F 105 A 1 k121 k76 N v3 r4 ((v5 + 1 : Nat) : Int) h) else (zgf h1 A 0 fun x3 => zbd (fX6_nextNumbering F 105 x3 h1) fun r4 h => LX6_seek_45 F 105 A 1 k121 k76 N v3 r4 ((v5 + 1 : Nat) : Int) h)) := by
      rw [LX6_seek_45, if_pos (by omega), if_neg (by decide), r6, zbd_some, zjn_eq]
      simp only [zlet_eq, wr_id (x := (v5 : Int) + 1) ⟨by omega, by omega⟩]
      rfl
    by_cases z : cmpL (lnL tb n ar p) (lnL tb n ar q) < 0
    · refine ⟨h1, .inl ⟨by rw [st, if_pos z], p, hp, c1.mp z, by omega, by omega, fun tb' hw' hG => ?_⟩, fun c i hc => r4 _ _ (by omega)⟩
      refine (wT_cmp hw' hp hq).1.mp ?_
      rw [r5 tb' (by rw [← r3]; exact hG)]; exact z
    · have z1 : wT tb n ar q ≤ wT tb n ar p := by
        by_cases w : wT tb n ar p < wT tb n ar q
        · exact absurd (c1.mpr w) z
        · omega
      obtain ⟨hb, cnt1, e1, e3, e4, e7, e8⟩ : ∃ (hb : HF) (cnt1 : Nat), (LX6_seek_45 F 105 A 1 k121 k76 (N + 1) v3 1 (v5 : Int) h = zbd (fX6_nextNumbering F 105 (n : Int) hb) fun r4 h => LX6_seek_45 F 105 A 1 k121 k76 N v3 r4 ((v5 + 1 : Nat) : Int) h) ∧ CSt hb A n ar tb p q ∧ hb 105 2 = (cnt1 : Int) ∧ cnt1 = cnt + (if wT tb n ar p = wT tb n ar q then 1 else 0) ∧ ∀ c i, (c < 105 ∨ 109 < c) → hb c i = h c i := by
        rw [st, if_neg z]
        by_cases y : cmpL (lnL tb n ar p) (lnL tb n ar q) = 0
        · rw [if_pos y]
          have hC2 : CSt (stp h1 105 2 ((cnt + 1 : Nat) : Int)) A n ar tb p q := CSt_keep hA (fun c i hc => stp_ne (by omega)) hC1
          refine ⟨stp h1 105 2 ((cnt + 1 : Nat) : Int), cnt + 1, ?_, hC2, stp_eq .., by rw [if_pos (c2.mp y)], fun c i hc => ?_⟩
          · rw [zgf_eq, r4 105 2 (by omega), h2, wr_id ⟨by omega, by omega⟩, zpf_eq, zgf_eq, show (cnt : Int) + 1 = ((cnt + 1 : Nat) : Int) by omega, hC2.1.1]
          · rw [stp_ne (by omega), r4 _ _ (by omega)]
        · rw [if_neg y]
          refine ⟨h1, cnt, ?_, hC1, by rw [r4 105 2 (by omega)]; exact h2, by rw [if_neg (fun w => y (c2.mpr w))]; rfl, fun c i hc => r4 _ _ (by omega)⟩
          rw [zgf_eq, hC1.1.1]
      obtain ⟨h4, n1, n2, n3⟩ := next_c (F := F) hF hn.1 hn.2 hp e3.2.1
      rw [e1, n1, zbd_some]
      rw [sqE] at hE
      rw [sq]
      cases e : nxP n p with
      | none =>
        refine ⟨h4, .inr ⟨?_, fun x hx => ?_, ?_⟩, fun c i hc => (n3 c i (by omega)).trans (e8 c i hc)⟩
        · obtain ⟨N, rfl⟩ : ∃ M, N = M + 1 := ⟨N - 1, by omega⟩
          rw [bi_isSome_none, sk_end]
        · rw [List.mem_singleton.mp hx]; exact z1
        · rw [n3 105 2 (by omega), e4, e7, List.countP_cons, List.countP_nil]
          by_cases y : wT tb n ar p = wT tb n ar q
          · simp [y]
          · simp [y]
      | some p' =>
        rw [e] at hE
        have hp' := (nxP_P hp e).1
        have hC4 : CSt h4 A n ar tb p' q := ⟨RepC_keep (fun i k hi => n3 _ _ (by omega)) e3.1, n2 p' e, RWp_keep (fun i => n3 _ _ (by omega)) (fun i => n3 _ _ (by omega)) e3.2.2⟩
        have hcb : cnt1 ≤ v5 + 1 := by
          by_cases y : wT tb n ar p = wT tb n ar q
          · rw [if_pos y] at e7; omega
          · rw [if_neg y] at e7; omega
        obtain ⟨h', i1, i2⟩ := ih N p' v3 cnt1 (v5 + 1) h4 (by omega) (by omega) hE hp' hC4 (by rw [n3 105 2 (by omega)]; exact e4) hcb
        refine ⟨h', ?_, fun c i hc => (i2 c i hc).trans ((n3 c i (by omega)).trans (e8 c i hc))⟩
        rcases i1 with ⟨j1, j2⟩ | ⟨j1, j2, j3⟩
        · exact .inl ⟨by rw [bi_isSome_some]; exact j1, j2⟩
        · refine .inr ⟨by rw [bi_isSome_some]; exact j1, fun x hx => ?_, ?_⟩
          · rcases List.mem_cons.mp hx with w | w
            · rw [w]; exact z1
            · exact j2 x w
          · rw [j3, e7, List.countP_cons]
            by_cases x : wT tb n ar p = wT tb n ar q
            · simp [x]; omega
            · simp [x]
theorem start_c {h : HF} {u2 : Int} (hF : 9 ≤ F) (hA : A + 3 < 105 ∨ 109 < A) (hw : WF n ar tb) (hr : RepC h A n ar tb) : ∃ h0, CSt h0 A n ar tb (List.range n) (List.range n) ∧ h0 105 2 = 0 ∧ (∀ c i, (c < 105 ∨ 109 < c) → h0 c i = h c i) ∧ fX6_seek F 105 A u2 h = LX6_seek_45 F 105 A u2 (fun x h => zrz x h) (fun h => zrz 0 h) F 1 1 0 h0 := by
  have hn := hw.1
  obtain ⟨h1, a1, a2, a3⟩ := first_c (F := F) (u1 := A) (u2 := u2) (k28 := fun h => zbd (fX6_keepBest F 105 h) fun _ h => zpf h 105 2 0 fun h => zjn (fun (x121_3 : Int) (h : HF) => zrz x121_3 h) fun j121 => zjn (fun (h : HF) => zrz 0 h) fun j76 => LX6_seek_45 F 105 A u2 j121 j76 F 1 1 0 h) 7 0 F h (by omega) (by omega) (fun j hj => by omega)
  have hP : RWp h1 108 109 n (List.range n) := ⟨fun i hi => by rw [List.length_range] at hi; rw [(a2 i (by omega)).1, gd_range hi], fun v hv => by rw [(a2 v (by omega)).2, iv_range hn.1 hn.2 hv]⟩
  obtain ⟨h2, b1, b2, b3⟩ := keep_c (F := F) (n := n) hn.2 List.length_range hP
  refine ⟨stp h2 105 2 0, ⟨RepC_keep (fun i k hi => by rw [stp_ne (by omega), b3 _ _ (by omega), a3 _ _ (by omega)]) hr, RWp_keep (fun i => by rw [stp_ne (by omega), b3 _ _ (by omega)]) (fun i => by rw [stp_ne (by omega), b3 _ _ (by omega)]) hP, RWp_keep (fun i => stp_ne (by omega)) (fun i => stp_ne (by omega)) b2⟩, stp_eq .., fun c i hc => by rw [stp_ne (by omega), b3 _ _ (by omega), a3 _ _ (by omega)], ?_⟩
  unfold fX6_seek
  rw [zjn_eq]
  refine a1.trans ?_
  rw [b1, zbd_some, zpf_eq, zjn_eq, zjn_eq]
theorem seek_c0 {h : HF} (hF : 5041 ≤ F) (hA : A + 3 < 105 ∨ 109 < A) (hk : kt A = 0 + 3) (hw : WF n ar tb) (hr : RepC h A n ar tb) : ∃ (h' : HF) (q : List Nat) (r : Int), fX6_seek F 105 A 0 h = some (r, h') ∧ IsP n q ∧ RWp h' 106 107 n q ∧ (∀ x, IsP n x → wT tb n ar q ≤ wT tb n ar x) ∧ h' 105 2 = (((PL n).countP (fun x => decide (wT tb n ar x = wT tb n ar q)) : Nat) : Int) ∧ ∀ c i, (c < 105 ∨ 109 < c) → h' c i = h c i := by
  have hn := hw.1
  obtain ⟨p1, p2, p3, p4⟩ := PL_all hn
  obtain ⟨h0, s1, s2, s3, s4⟩ := start_c (F := F) (u2 := 0) (by omega) hA hw hr
  obtain ⟨h', q, v3, e1, e2, e3, e4, e5, e6, e7, e8⟩ := sk0 (F := F) (by omega) hA hk hw (k121 := fun x h => zrz x h) (k76 := fun h => zrz 0 h) 5040 F (List.range n) (List.range n) 1 0 0 h0 (by omega) (by omega) p4 (IsP_id hn.1) (IsP_id hn.1) s1 s2 (by omega) (.inr rfl)
  refine ⟨h', q, v3, ?_, e3, e4, fun x hx => e6 x ((p2 x).mpr hx), ?_, fun c i hc => (e8 c i hc).trans (s3 c i hc)⟩
  · rw [s4]
    refine e1.trans ?_
    rcases e2 with rfl | rfl <;> rfl
  · rw [e7]
    have : (if wT tb n ar q = wT tb n ar (List.range n) then 0 else 0) = 0 := by split <;> rfl
    rw [this, Nat.zero_add]; rfl
theorem seek_c1 {h : HF} (hF : 5041 ≤ F) (hA : A + 3 < 105 ∨ 109 < A) (hk : kt A = 0 + 3) (hw : WF n ar tb) (hr : RepC h A n ar tb) : ∃ (h' : HF), ((fX6_seek F 105 A 1 h = some (0, h') ∧ ∃ x, IsP n x ∧ wT tb n ar x < wT tb n ar (List.range n) ∧ -1 ≤ h' 105 3 ∧ h' 105 3 < (sto n ar ar.length : Int) ∧ ∀ tb', WF n ar tb' → AG n ar tb tb' (h' 105 3) → wT tb' n ar x < wT tb' n ar (List.range n)) ∨ (fX6_seek F 105 A 1 h = some (1, h') ∧ (∀ x, IsP n x → wT tb n ar (List.range n) ≤ wT tb n ar x) ∧ h' 105 2 = (((PL n).countP (fun x => decide (wT tb n ar x = wT tb n ar (List.range n))) : Nat) : Int))) ∧ ∀ c i, (c < 105 ∨ 109 < c) → h' c i = h c i := by
  have hn := hw.1
  obtain ⟨p1, p2, p3, p4⟩ := PL_all hn
  obtain ⟨h0, s1, s2, s3, s4⟩ := start_c (F := F) (u2 := 1) (by omega) hA hw hr
  obtain ⟨h', e1, e2⟩ := sk1 (F := F) (by omega) hA hk hw (IsP_id hn.1) (k121 := fun x h => zrz x h) (k76 := fun h => zrz 0 h) 5040 F (List.range n) 1 0 0 h0 (by omega) (by omega) p4 (IsP_id hn.1) s1 s2 (by omega)
  refine ⟨h', ?_, fun c i hc => (e2 c i hc).trans (s3 c i hc)⟩
  rcases e1 with ⟨j1, j2⟩ | ⟨j1, j2, j3⟩
  · exact .inl ⟨by rw [s4]; exact j1, j2⟩
  · refine .inr ⟨by rw [s4]; exact j1, fun x hx => j2 x ((p2 x).mpr hx), ?_⟩
    rw [j3, Nat.zero_add]; rfl
end S1
/-! the reference lays a line and compares one -/
section RL
variable {F n d : Nat} {ar : List Nat} {tb : Nat → Nat → Int}
/-- names and where they stand; the numbering is the inverse of the names -/
def MSt (h : HF) (d n : Nat) (ar : List Nat) (tb : Nat → Nat → Int) (s : List Nat) : Prop := RepM h 184 185 186 187 d n ar tb ∧ LN h 211 s
theorem bk_lay (hn : n ≤ 7) (hd : d < 10) {s : List Nat} (hs : IsP n s) {X : Nat} {u3 : Int} {k36 : Int → HF → RO} : ∀ (m i N : Nat) (h : HF), i + m = n → m + 1 ≤ N → h 184 d = (n : Int) → LN h 211 s → (∀ k, k < i → h 212 (s.getD k 0) = (k : Int)) → ∃ h', LX12_lay_5 F 181 (d : Int) X u3 k36 N (i : Int) h = k36 u3 h' ∧ (∀ k, k < n → h' 212 (s.getD k 0) = (k : Int)) ∧ ∀ c k, c ≠ 212 → h' c k = h c k := by
  intro m
  induction m with
  | zero =>
    intro i N h hi hN h0 hL hV
    obtain ⟨N, rfl⟩ : ∃ M, N = M + 1 := ⟨N - 1, by omega⟩
    exact ⟨h, by rw [LX12_lay_5, rdm3 (by omega), h0, if_neg (by omega)], fun k hk => hV k (by omega), fun _ _ _ => rfl⟩
  | succ m ih =>
    intro i N h hi hN h0 hL hV
    obtain ⟨N, rfl⟩ : ∃ M, N = M + 1 := ⟨N - 1, by omega⟩
    have hlen := hs.1.1
    have hv := hs.1.2 i (by omega)
    obtain ⟨h', e1, e2, e3⟩ := ih (i + 1) N (stp h 212 (s.getD i 0) (i : Int)) (by omega) (by omega) (by rw [stp_ne (by omega)]; exact h0) (LN_keep (fun k => stp_ne (by omega)) hL) (fun k hk => by
      by_cases z : k = i
      · subst z; exact stp_eq ..
      · rw [stp_ne (.inr fun w => z (hs.2 k i (by omega) (by omega) w)), hV k (by omega)])
    refine ⟨h', ?_, e2, fun c k hc => (e3 c k hc).trans (stp_ne (by omega))⟩
    rw [LX12_lay_5, rdm3 (by omega), h0, if_pos (by omega), rdm30 (by omega), hL i (by omega), wtm31 (by omega), zlet_eq, wr_id ⟨by omega, by omega⟩]
    exact e1
theorem bk_cmp (hn : n ≤ 7) {s : List Nat} (hs : IsP n s) {X : Nat} {u1 : Int} {k36 : HF → RO} : ∀ (m i N : Nat) (h : HF), i + m = n → m + 1 ≤ N → LN h 211 s → (∀ k, k < i → h 212 (s.getD k 0) = (k : Int)) → ∃ h', LX12_compare_10 F 181 u1 X (n : Int) k36 N (i : Int) h = k36 h' ∧ (∀ k, k < n → h' 212 (s.getD k 0) = (k : Int)) ∧ ∀ c k, c ≠ 212 → h' c k = h c k := by
  intro m
  induction m with
  | zero =>
    intro i N h hi hN hL hV
    obtain ⟨N, rfl⟩ : ∃ M, N = M + 1 := ⟨N - 1, by omega⟩
    exact ⟨h, by rw [LX12_compare_10, if_neg (by omega)], fun k hk => hV k (by omega), fun _ _ _ => rfl⟩
  | succ m ih =>
    intro i N h hi hN hL hV
    obtain ⟨N, rfl⟩ : ∃ M, N = M + 1 := ⟨N - 1, by omega⟩
    have hlen := hs.1.1
    have hv := hs.1.2 i (by omega)
    obtain ⟨h', e1, e2, e3⟩ := ih (i + 1) N (stp h 212 (s.getD i 0) (i : Int)) (by omega) (by omega) (LN_keep (fun k => stp_ne (by omega)) hL) (fun k hk => by
      by_cases z : k = i
      · subst z; exact stp_eq ..
      · rw [stp_ne (.inr fun w => z (hs.2 k i (by omega) (by omega) w)), hV k (by omega)])
    refine ⟨h', ?_, e2, fun c k hc => (e3 c k hc).trans (stp_ne (by omega))⟩
    rw [LX12_compare_10, if_pos (by omega), rdm30 (by omega), hL i (by omega), wtm31 (by omega), zlet_eq, wr_id ⟨by omega, by omega⟩]
    exact e1
/-- what both read: the table, the names, and back -/
def MB (h : HF) (d n : Nat) (ar : List Nat) (tb : Nat → Nat → Int) (p : List Nat) : Prop := RepM h 184 185 186 187 d n ar tb ∧ (∀ v, v < n → h 211 v = ((iv p v : Nat) : Int)) ∧ ∀ i, i < n → h 212 i = ((p.getD i 0 : Nat) : Int)
theorem MB_of (hn : n ≤ 7) {h h' : HF} {s : List Nat} (hs : IsP n s) (hr : RepM h 184 185 186 187 d n ar tb) (hL : LN h 211 s) (hV : ∀ k, k < n → h' 212 (s.getD k 0) = (k : Int)) (e : ∀ c k, c ≠ 212 → h' c k = h c k) : MB h' d n ar tb (invL n s) := by
  refine ⟨⟨by rw [e _ _ (by omega)]; exact hr.1, by rw [e _ _ (by omega)]; exact hr.2.1, fun o ho => by rw [e _ _ (by omega)]; exact hr.2.2.1 o ho, fun o ho k hk => by rw [e _ _ (by omega)]; exact hr.2.2.2 o ho k hk⟩, fun v hv => ?_, fun i hi => ?_⟩
  · rw [e _ _ (by omega), hL v (by rw [hs.1.1]; exact hv), iv_inv hn hs hv]
  · rw [inv_get hi]
    have := iv_lt hn hs hi
    have w := hV _ this.1
    rwa [this.2] at w
theorem RepM_off {h h' : HF} (e : ∀ c i, (184 ≤ c ∧ c ≤ 187) → h' c i = h c i) (hr : RepM h 184 185 186 187 d n ar tb) : RepM h' 184 185 186 187 d n ar tb := ⟨by rw [e _ _ (by omega)]; exact hr.1, by rw [e _ _ (by omega)]; exact hr.2.1, fun o ho => by rw [e _ _ (by omega)]; exact hr.2.2.1 o ho, fun o ho k hk => by rw [e _ _ (by omega)]; exact hr.2.2.2 o ho k hk⟩
theorem MB_keep {h h' : HF} {p : List Nat} (e : ∀ c i, c ≤ 212 → h' c i = h c i) (hM : MB h d n ar tb p) : MB h' d n ar tb p := ⟨RepM_off (fun c i hc => e c i (by omega)) hM.1, fun v hv => by rw [e _ _ (by omega)]; exact hM.2.1 v hv, fun i hi => by rw [e _ _ (by omega)]; exact hM.2.2 i hi⟩
end RL
