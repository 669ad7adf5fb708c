/-! the next numbering, on both sides -/
theorem LN_swp {h : HF} {c i j : Nat} {l : List Nat} (hi : i < l.length) (hj : j < l.length) (hl : LN h c l) : LN (stp (stp h c i (h c j)) c j (h c i)) c (swp l i j) := by
  unfold swp
  rw [hl i hi, hl j hj]
  exact LN_set (by rw [List.length_set]; exact hj) (LN_set hi hl)
section NX
variable {F n : Nat}
theorem swap_c {i j : Nat} {l : List Nat} {h : HF} (hl : l.length = n) (hn : n ≤ 7) (hi : i < n) (hj : j < n) (hL : LN h 108 l) : ∃ h', fX6_swap F 105 (i : Int) (j : Int) h = some (0, h') ∧ LN h' 108 (swp l i j) ∧ ∀ c k, c ≠ 108 → h' c k = h c k := by
  refine ⟨stp (stp h 108 i (h 108 j)) 108 j (h 108 i), ?_, LN_swp (by omega) (by omega) hL, fun c k hc => by rw [stp_ne (by omega), stp_ne (by omega)]⟩
  unfold fX6_swap
  rw [rdp (by omega) (by omega), rdp (by omega) (by omega), wtp (by omega) (by omega), wtp (by omega) (by omega)]
theorem swap_m {i j : Nat} {l : List Nat} {h : HF} (hl : l.length = n) (hn : n ≤ 7) (hi : i < n) (hj : j < n) (hL : LN h 211 l) : ∃ h', fX12_swap F 181 (i : Int) (j : Int) h = some (0, h') ∧ LN h' 211 (swp l i j) ∧ ∀ c k, c ≠ 211 → h' c k = h c k := by
  refine ⟨stp (stp h 211 i (h 211 j)) 211 j (h 211 i), ?_, LN_swp (by omega) (by omega) hL, fun c k hc => by rw [stp_ne (by omega), stp_ne (by omega)]⟩
  unfold fX12_swap
  rw [rdm30 (by omega), rdm30 (by omega), wtm30 (by omega), wtm30 (by omega)]
theorem pvt_c {l : List Nat} {h : HF} (hl : l.length = n) (hn : n ≤ 7) (hL : LN h 108 l) {u1 : Int} {k31 : Int → HF → RO} : ∀ (j N : Nat), j < n → j + 1 ≤ N → LX6_nextNumbering_4 F 105 u1 k31 N ((j : Int) - 1) h = k31 ((pvt l j : Int) - 1) h := by
  intro j
  induction j with
  | zero =>
    intro N hj hN
    obtain ⟨N, rfl⟩ : ∃ M, N = M + 1 := ⟨N - 1, by omega⟩
    rw [LX6_nextNumbering_4, if_pos (by omega)]; rfl
  | succ j ih =>
    intro N hj hN
    obtain ⟨N, rfl⟩ : ∃ M, N = M + 1 := ⟨N - 1, by omega⟩
    rw [LX6_nextNumbering_4, if_neg (by omega), show ((j + 1 : Nat) : Int) - 1 = (j : Int) by omega, wr_id (x := (j : Int) + 1) ⟨by omega, by omega⟩, rdp (by omega) (by omega), show (j : Int) + 1 = ((j + 1 : Nat) : Int) by omega, rdp (by omega) (by omega), show h (105 + 3) j = _ from hL j (by omega), show h (105 + 3) (j + 1) = _ from hL (j + 1) (by omega), pvt]
    by_cases q : l.getD (j + 1) 0 < l.getD j 0
    · rw [if_pos (by omega), if_pos q, zlet_eq, wr_id ⟨by omega, by omega⟩]
      exact ih N (by omega) (by omega)
    · rw [if_neg (by omega), if_neg q, show ((j + 1 : Nat) : Int) - 1 = (j : Int) by omega]
theorem pvt_m {l : List Nat} {h : HF} (hl : l.length = n) (hn : n ≤ 7) (hL : LN h 211 l) {u1 : Int} {k31 : Int → HF → RO} : ∀ (j N : Nat), j < n → j + 1 ≤ N → LX12_nextNames_4 F 181 u1 k31 N ((j : Int) - 1) h = k31 ((pvt l j : Int) - 1) h := by
  intro j
  induction j with
  | zero =>
    intro N hj hN
    obtain ⟨N, rfl⟩ : ∃ M, N = M + 1 := ⟨N - 1, by omega⟩
    rw [LX12_nextNames_4, if_pos (by omega)]; rfl
  | succ j ih =>
    intro N hj hN
    obtain ⟨N, rfl⟩ : ∃ M, N = M + 1 := ⟨N - 1, by omega⟩
    rw [LX12_nextNames_4, if_neg (by omega), show ((j + 1 : Nat) : Int) - 1 = (j : Int) by omega, wr_id (x := (j : Int) + 1) ⟨by omega, by omega⟩, rdm30 (by omega), show (j : Int) + 1 = ((j + 1 : Nat) : Int) by omega, rdm30 (by omega), hL j (by omega), hL (j + 1) (by omega), pvt]
    by_cases q : l.getD (j + 1) 0 < l.getD j 0
    · rw [if_pos (by omega), if_pos q, zlet_eq, wr_id ⟨by omega, by omega⟩]
      exact ih N (by omega) (by omega)
    · rw [if_neg (by omega), if_neg q, show ((j + 1 : Nat) : Int) - 1 = (j : Int) by omega]
theorem grt_c {l : List Nat} {h : HF} {u : Nat} (hl : l.length = n) (hn : n ≤ 7) (hu : u < n) (hL : LN h 108 l) {u1 : Int} {k67 : Int → Int → HF → RO} : ∀ (j N : Nat), j < n → u ≤ j → j + 1 ≤ N → LX6_nextNumbering_41 F 105 u1 (u : Int) k67 N (j : Int) h = k67 (u : Int) (grt l u j : Int) h := by
  intro j
  induction j with
  | zero =>
    intro N hj hu0 hN
    obtain ⟨N, rfl⟩ : ∃ M, N = M + 1 := ⟨N - 1, by omega⟩
    rw [LX6_nextNumbering_41, if_neg (by omega)]; rfl
  | succ j ih =>
    intro N hj hu0 hN
    obtain ⟨N, rfl⟩ : ∃ M, N = M + 1 := ⟨N - 1, by omega⟩
    rw [LX6_nextNumbering_41, grt]
    by_cases z : u = j + 1
    · subst z
      rw [if_neg (by omega), if_neg (by omega)]
    · rw [if_pos (by omega), rdp (by omega) (by omega), rdp (by omega) (by omega), show h (105 + 3) (j + 1) = _ from hL (j + 1) (by omega), show h (105 + 3) u = _ from hL u (by omega)]
      by_cases q : l.getD (j + 1) 0 < l.getD u 0
      · rw [if_pos (by omega), if_pos q, zlet_eq, show ((j + 1 : Nat) : Int) + -1 = (j : Int) by omega, wr_id ⟨by omega, by omega⟩]
        exact ih N (by omega) (by omega) (by omega)
      · rw [if_neg (by omega), if_neg q]
theorem grt_m {l : List Nat} {h : HF} {u : Nat} (hl : l.length = n) (hn : n ≤ 7) (hu : u < n) (hL : LN h 211 l) {u1 : Int} {k62 : Int → Int → HF → RO} : ∀ (j N : Nat), j < n → u ≤ j → j + 1 ≤ N → LX12_nextNames_41 F 181 u1 (u : Int) k62 N (j : Int) h = k62 (u : Int) (grt l u j : Int) h := by
  intro j
  induction j with
  | zero =>
    intro N hj hu0 hN
    obtain ⟨N, rfl⟩ : ∃ M, N = M + 1 := ⟨N - 1, by omega⟩
    obtain rfl : u = 0 := by omega
    rw [LX12_nextNames_41, rdm30 (by omega), rdm30 (by omega), if_neg (by omega)]; rfl
  | succ j ih =>
    intro N hj hu0 hN
    obtain ⟨N, rfl⟩ : ∃ M, N = M + 1 := ⟨N - 1, by omega⟩
    rw [LX12_nextNames_41, grt, rdm30 (by omega), rdm30 (by omega), hL (j + 1) (by omega), hL u (by omega)]
    by_cases q : l.getD (j + 1) 0 < l.getD u 0
    · have : u ≠ j + 1 := fun w => by rw [w] at q; omega
      rw [if_pos (by omega), if_pos q, zlet_eq, show ((j + 1 : Nat) : Int) + -1 = (j : Int) by omega, wr_id ⟨by omega, by omega⟩]
      exact ih N (by omega) (by omega) (by omega)
    · rw [if_neg (by omega), if_neg q]
theorem rvs_c (hn : n ≤ 7) {u1 : Int} {u2 : Int} {k107 : Int → HF → RO} : ∀ (m N i j : Nat) (l : List Nat) (h : HF), l.length = n → j < n → j ≤ i + m → m + 1 ≤ N → i ≤ 8 → LN h 108 l → ∃ h', LX6_nextNumbering_83 F 105 u1 u2 k107 N (i : Int) (j : Int) h = k107 u2 h' ∧ LN h' 108 (rvs m l i j) ∧ ∀ c k, c ≠ 108 → h' c k = h c k := by
  intro m
  induction m with
  | zero =>
    intro N i j l h hl hj hm hN hi8 hL
    obtain ⟨N, rfl⟩ : ∃ M, N = M + 1 := ⟨N - 1, by omega⟩
    exact ⟨h, by rw [LX6_nextNumbering_83, if_neg (by omega)], hL, fun _ _ _ => rfl⟩
  | succ m ih =>
    intro N i j l h hl hj hm hN hi8 hL
    obtain ⟨N, rfl⟩ : ∃ M, N = M + 1 := ⟨N - 1, by omega⟩
    rw [LX6_nextNumbering_83, rvs]
    by_cases q : i < j
    · rw [if_pos (by omega), if_pos q]
      obtain ⟨h1, e1, e2, e3⟩ := swap_c (F := F) hl hn (by omega : i < n) hj hL
      obtain ⟨h2, e4, e5, e6⟩ := ih N (i + 1) (j - 1) (swp l i j) h1 (by rw [swp_len]; exact hl) (by omega) (by omega) (by omega) (by omega) e2
      refine ⟨h2, ?_, e5, fun c k hc => (e6 c k hc).trans (e3 c k hc)⟩
      rw [e1, zbd_some, zlet_eq, zlet_eq, wr_id (x := (i : Int) + 1) ⟨by omega, by omega⟩, wr_id (x := (j : Int) + -1) ⟨by omega, by omega⟩, show (j : Int) + -1 = ((j - 1 : Nat) : Int) by omega]
      exact e4
    · rw [if_neg (by omega), if_neg q]
      exact ⟨h, rfl, hL, fun _ _ _ => rfl⟩
theorem rvs_m (hn : n ≤ 7) {k102 : HF → RO} : ∀ (m N i j : Nat) (l : List Nat) (h : HF), l.length = n → j < n → j ≤ i + m → m + 1 ≤ N → i ≤ 8 → LN h 211 l → ∃ h', LX12_nextNames_78 F 181 k102 N (i : Int) (j : Int) h = k102 h' ∧ LN h' 211 (rvs m l i j) ∧ ∀ c k, c ≠ 211 → h' c k = h c k := by
  intro m
  induction m with
  | zero =>
    intro N i j l h hl hj hm hN hi8 hL
    obtain ⟨N, rfl⟩ : ∃ M, N = M + 1 := ⟨N - 1, by omega⟩
    exact ⟨h, by rw [LX12_nextNames_78, if_neg (by omega)], hL, fun _ _ _ => rfl⟩
  | succ m ih =>
    intro N i j l h hl hj hm hN hi8 hL
    obtain ⟨N, rfl⟩ : ∃ M, N = M + 1 := ⟨N - 1, by omega⟩
    rw [LX12_nextNames_78, rvs]
    by_cases q : i < j
    · rw [if_pos (by omega), if_pos q]
      obtain ⟨h1, e1, e2, e3⟩ := swap_m (F := F) hl hn (by omega : i < n) hj hL
      obtain ⟨h2, e4, e5, e6⟩ := ih N (i + 1) (j - 1) (swp l i j) h1 (by rw [swp_len]; exact hl) (by omega) (by omega) (by omega) (by omega) e2
      refine ⟨h2, ?_, e5, fun c k hc => (e6 c k hc).trans (e3 c k hc)⟩
      rw [e1, zbd_some, zlet_eq, zlet_eq, wr_id (x := (i : Int) + 1) ⟨by omega, by omega⟩, wr_id (x := (j : Int) + -1) ⟨by omega, by omega⟩, show (j : Int) + -1 = ((j - 1 : Nat) : Int) by omega]
      exact e4
    · rw [if_neg (by omega), if_neg q]
      exact ⟨h, rfl, hL, fun _ _ _ => rfl⟩
/-- the class writes where the elements stand now, from a place on -/
theorem ivs_c (hn : n ≤ 7) {l : List Nat} (hl : IsP n l) {k136 : HF → RO} : ∀ (m i N : Nat) (h : HF), i + m = n → m + 1 ≤ N → LN h 108 l → (∀ k, k < i → h 109 (l.getD k 0) = (k : Int)) → ∃ h', LX6_nextNumbering_110 F 105 (n : Int) k136 N (i : Int) h = k136 h' ∧ (∀ k, k < n → h' 109 (l.getD k 0) = (k : Int)) ∧ ∀ c k, c ≠ 109 → h' c k = h c k := by
  intro m
  induction m with
  | zero =>
    intro i N h hi hN hL hV
    obtain ⟨N, rfl⟩ : ∃ M, N = M + 1 := ⟨N - 1, by omega⟩
    exact ⟨h, by rw [LX6_nextNumbering_110, if_neg (by omega)], fun k hk => hV k (by omega), fun _ _ _ => rfl⟩
  | succ m ih =>
    intro i N h hi hN hL hV
    obtain ⟨N, rfl⟩ : ∃ M, N = M + 1 := ⟨N - 1, by omega⟩
    have hlen := hl.1.1
    have hv := hl.1.2 i (by omega)
    obtain ⟨h', e1, e2, e3⟩ := ih (i + 1) N (stp h 109 (l.getD i 0) (i : Int)) (by omega) (by omega) (LN_keep (fun k => stp_ne (by omega)) hL) (fun k hk => by
      by_cases z : k = i
      · subst z; exact stp_eq ..
      · rw [stp_ne (.inr fun w => z (hl.2 k i (by omega) (by omega) w)), hV k (by omega)])
    refine ⟨h', ?_, e2, fun c k hc => (e3 c k hc).trans (stp_ne (by omega))⟩
    rw [LX6_nextNumbering_110, if_pos (by omega), rdp (by omega) (by omega), show h (105 + 3) i = _ from hL i (by omega), wtp (by omega) (by omega), zlet_eq, wr_id ⟨by omega, by omega⟩]
    exact e1
theorem next_c {l : List Nat} {h : HF} (hF : 9 ≤ F) (h1n : 1 ≤ n) (hn : n ≤ 7) (hl : IsP n l) (hP : RWp h 108 109 n l) : ∃ h', fX6_nextNumbering F 105 (n : Int) h = some (bi (nxP n l).isSome, h') ∧ (∀ l', nxP n l = some l' → RWp h' 108 109 n l') ∧ ∀ c k, (c ≠ 108 ∧ c ≠ 109) → h' c k = h c k := by
  have hlen := hl.1.1
  unfold fX6_nextNumbering
  rw [zlet_eq, zjn_eq, show wr ((n : Int) - 2) = ((n - 1 : Nat) : Int) - 1 by rw [wr_id ⟨by omega, by omega⟩]; omega, pvt_c hlen hn hP.1 (n - 1) F (by omega) (by omega)]
  unfold nxP
  cases q : pvt l (n - 1) with
  | zero =>
    rw [if_pos (by omega), zrz_0]
    exact ⟨h, rfl, fun l' e => absurd e (by simp), fun _ _ _ => rfl⟩
  | succ u =>
    obtain ⟨a1, a2⟩ := pvt_sp _ _ q
    obtain ⟨b1, b2, b3⟩ := grt_sp a2 (n - 1) a1
    obtain ⟨h1, e1, e2, e3⟩ := swap_c (F := F) (i := u) (j := grt l u (n - 1)) hlen hn (by omega) (by omega) hP.1
    have hs : IsP n (swp l u (grt l u (n - 1))) := IsP_swp hl (by omega) (by omega)
    have k107 : ∀ (k : Int → HF → RO), ∃ h', LX6_nextNumbering_83 F 105 (n : Int) (u : Int) k F ((u + 1 : Nat) : Int) ((n - 1 : Nat) : Int) h1 = k (u : Int) h' ∧ LN h' 108 (rvs n (swp l u (grt l u (n - 1))) (u + 1) (n - 1)) ∧ ∀ c k, c ≠ 108 → h' c k = h1 c k := fun k => rvs_c hn n F (u + 1) (n - 1) _ h1 hs.1.1 (by omega) (by omega) (by omega) (by omega) e2
    obtain ⟨c1, c2⟩ := rvs_P n _ (u + 1) (n - 1) hs (by omega)
    obtain ⟨h2, f1, f2, f3⟩ := k107 (fun (x107_2 : Int) (h : HF) => zjn (fun (h : HF) => zrz 1 h) fun j136 => LX6_nextNumbering_110 F 105 (n : Int) j136 F x107_2 h)
    obtain ⟨h3, g1, g2, g3⟩ := ivs_c (F := F) hn c1 (k136 := fun h => zrz 1 h) (n - u) u F h2 (by omega) (by omega) f2 (fun k hk => by
      rw [c2 k (by omega), swp_get (by omega) (by omega), if_neg (by omega), if_neg (by omega), f3 _ _ (by omega), e3 _ _ (by omega), hP.2 _ (hl.1.2 k (by omega)), iv_get hn hl (by omega)])
    refine ⟨h3, ?_, fun l' e => ?_, fun c k hc => (g3 c k hc.2).trans ((f3 c k hc.1).trans (e3 c k hc.1))⟩
    · rw [if_neg (by omega), zlet_eq, zjn_eq, show ((u + 1 : Nat) : Int) - 1 = (u : Int) by omega, show wr ((n : Int) - 1) = ((n - 1 : Nat) : Int) by rw [wr_id ⟨by omega, by omega⟩]; omega, grt_c hlen hn (by omega) hP.1 (n - 1) F (by omega) (by omega) (by omega), e1, zbd_some, zlet_eq, zlet_eq, zjn_eq, wr_id (x := (u : Int) + 1) ⟨by omega, by omega⟩]
      refine f1.trans ?_
      rw [zjn_eq]
      exact g1
    · obtain rfl := Option.some.inj e
      refine ⟨LN_keep (fun i => g3 _ _ (by omega)) f2, fun v hv => ?_⟩
      have := iv_lt hn c1 hv
      have w := g2 _ this.1
      rw [this.2] at w
      exact w
theorem next_m {l : List Nat} {h : HF} (hF : 9 ≤ F) (h1n : 1 ≤ n) (hn : n ≤ 7) (hl : IsP n l) (hP : LN h 211 l) : ∃ h', fX12_nextNames F 181 (n : Int) h = some (bi (nxP n l).isSome, h') ∧ (∀ l', nxP n l = some l' → LN h' 211 l') ∧ ∀ c k, c ≠ 211 → h' c k = h c k := by
  have hlen := hl.1.1
  unfold fX12_nextNames
  rw [zlet_eq, zjn_eq, show wr ((n : Int) - 2) = ((n - 1 : Nat) : Int) - 1 by rw [wr_id ⟨by omega, by omega⟩]; omega, pvt_m hlen hn hP (n - 1) F (by omega) (by omega)]
  unfold nxP
  cases q : pvt l (n - 1) with
  | zero =>
    rw [if_pos (by omega), zrz_0]
    exact ⟨h, rfl, fun l' e => absurd e (by simp), fun _ _ _ => rfl⟩
  | succ u =>
    obtain ⟨a1, a2⟩ := pvt_sp _ _ q
    obtain ⟨b1, b2, b3⟩ := grt_sp a2 (n - 1) a1
    obtain ⟨h1, e1, e2, e3⟩ := swap_m (F := F) (i := u) (j := grt l u (n - 1)) hlen hn (by omega) (by omega) hP
    have hs : IsP n (swp l u (grt l u (n - 1))) := IsP_swp hl (by omega) (by omega)
    obtain ⟨h2, f1, f2, f3⟩ := rvs_m (F := F) hn (k102 := fun h => zrz 1 h) n F (u + 1) (n - 1) _ h1 hs.1.1 (by omega) (by omega) (by omega) (by omega) e2
    refine ⟨h2, ?_, fun l' e => ?_, fun c k hc => (f3 c k hc).trans (e3 c k hc)⟩
    · rw [if_neg (by omega), zlet_eq, zjn_eq, show ((u + 1 : Nat) : Int) - 1 = (u : Int) by omega, show wr ((n : Int) - 1) = ((n - 1 : Nat) : Int) by rw [wr_id ⟨by omega, by omega⟩]; omega, grt_m hlen hn (by omega) hP (n - 1) F (by omega) (by omega) (by omega), e1, zbd_some, zlet_eq, zlet_eq, zjn_eq, wr_id (x := (u : Int) + 1) ⟨by omega, by omega⟩]
      exact f1
    · obtain rfl := Option.some.inj e
      exact f2
end NX
