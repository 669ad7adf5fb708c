/-! sub -/
theorem bc_s {x m : Nat} : bc x (m + 1) = bc x m + (if x.testBit m = true then 1 else 0) := rfl
theorem bc_step {x a : Nat} (h : x.testBit a = true) : ∀ m, a + 1 ≤ m → bc x a < bc x m
  | 0, q => absurd q (by omega)
  | m + 1, q => by
    rw [bc_s]
    by_cases z : a = m
    · subst z; rw [if_pos h]; omega
    · have := bc_step h m (by omega)
      omega
theorem bc_inj {x a b : Nat} (ha : x.testBit a = true) (hb : x.testBit b = true) (e : bc x a = bc x b) : a = b := by
  rcases Nat.lt_trichotomy a b with q | q | q
  · have := bc_step ha b q; omega
  · exact q
  · have := bc_step hb a q; omega
theorem bc_surj {x i : Nat} : ∀ m, i < bc x m → ∃ a, a < m ∧ x.testBit a = true ∧ bc x a = i
  | 0, q => absurd q (by simp [bc])
  | m + 1, q => by
    rw [bc_s] at q
    by_cases z : i < bc x m
    · obtain ⟨a, h1, h2, h3⟩ := bc_surj m z
      exact ⟨a, by omega, h2, h3⟩
    · by_cases y : x.testBit m = true
      · rw [if_pos y] at q; exact ⟨m, by omega, y, by omega⟩
      · rw [if_neg y] at q; omega
theorem ix_congr {n r a b a' b' : Nat} (h1 : 1 ≤ r → a = a') (h2 : 2 ≤ r → b = b') : ix n r a b = ix n r a' b' := by
  unfold ix
  by_cases q0 : r = 0
  · rw [if_pos q0, if_pos q0]
  · rw [if_neg q0, if_neg q0]
    by_cases q1 : r = 1
    · rw [if_pos q1, if_pos q1]; exact h1 (by omega)
    · by_cases q2 : 2 ≤ r
      · rw [if_neg q1, if_neg q1, h1 (by omega), h2 q2]
      · omega
theorem vl_congr {n : Nat} {ar : List Nat} {tb : Nat → Nat → Int} {o a b a' b' : Nat} (h1 : 1 ≤ ar.getD o 0 → a = a') (h2 : 2 ≤ ar.getD o 0 → b = b') : vl tb n ar o a b = vl tb n ar o a' b' := by
  unfold vl
  rw [ix_congr h1 h2]
theorem numM_L {F n s : Nat} {k : Int → HF → RO} (hn : n ≤ 7) (hs : s < 2 ^ n) : ∀ (m e N : Nat) (h : HF), e + m = n → m + 1 ≤ N → (∀ v, v < e → h 116 v = ((bc s v : Nat) : Int)) → (∀ a, a < e → s.testBit a = true → h 115 (bc s a) = (a : Int)) → ∃ h', LX11_numberMembers_5 F 0 (s : Int) (n : Int) k N ((bc s e : Nat) : Int) (e : Int) h = k ((bc s n : Nat) : Int) h' ∧ (∀ v, v < n → h' 116 v = ((bc s v : Nat) : Int)) ∧ (∀ a, a < n → s.testBit a = true → h' 115 (bc s a) = (a : Int)) ∧ ∀ c i, c ≠ 115 → c ≠ 116 → h' c i = h c i := by
  have h7 := pw_7 hn
  have k5 : kl 115 = 7 := by decide +kernel
  have k6 : kl 116 = 7 := by decide +kernel
  intro m
  induction m with
  | zero =>
    intro e N h he hN h1 h2
    obtain ⟨N, rfl⟩ : ∃ M, N = M + 1 := ⟨N - 1, by omega⟩
    obtain rfl : e = n := by omega
    rw [LX11_numberMembers_5, if_neg (by omega)]
    exact ⟨h, rfl, h1, h2, fun _ _ _ _ => rfl⟩
  | succ m ih =>
    intro e N h he hN h1 h2
    obtain ⟨N, rfl⟩ : ∃ M, N = M + 1 := ⟨N - 1, by omega⟩
    have hbe := bc_le (x := s) e
    rw [LX11_numberMembers_5, if_pos (by omega), zwr_ok (a := 0 + 116) ⟨by omega, by rw [show kl (0 + 116) = 7 from k6]; omega⟩, Int.toNat_natCast, hasBit_eq (by omega) (by omega), zbd_some]
    simp only [zjn, zlet]
    rw [wr_s (by omega), wr_s (by omega)]
    by_cases q : s.testBit e = true
    · rw [q, bi_t, if_neg (by decide), zwr_ok (a := 0 + 115) ⟨by omega, by rw [show kl (0 + 115) = 7 from k5]; omega⟩, Int.toNat_natCast]
      have eb : bc s (e + 1) = bc s e + 1 := by rw [bc_s, if_pos q]
      rw [← eb]
      obtain ⟨h', x1, x2, x3, x4⟩ := ih (e + 1) N (stp (stp h 116 e ((bc s e : Nat) : Int)) 115 (bc s e) (e : Int)) (by omega) (by omega) (fun v hv => by
        rw [stp_ne (by omega)]
        by_cases z : v = e
        · subst z; rw [stp_eq]
        · rw [stp_ne (by omega)]; exact h1 v (by omega)) (fun a ha hb => by
        by_cases z : a = e
        · subst z; rw [stp_eq]
        · have := bc_step hb e (by omega)
          rw [stp_ne (by omega), stp_ne (by omega)]; exact h2 a (by omega) hb)
      exact ⟨h', x1, x2, x3, fun c i c1 c2 => by rw [x4 c i c1 c2, stp_ne (Or.inl c1), stp_ne (Or.inl c2)]⟩
    · have q' : s.testBit e = false := by simpa using q
      have eb : bc s (e + 1) = bc s e := by rw [bc_s, if_neg q]; rfl
      rw [q', bi_f, if_pos rfl, ← eb]
      obtain ⟨h', x1, x2, x3, x4⟩ := ih (e + 1) N (stp h 116 e ((bc s (e + 1) : Nat) : Int)) (by omega) (by omega) (fun v hv => by
        by_cases z : v = e
        · subst z; rw [stp_eq, eb]
        · rw [stp_ne (by omega)]; exact h1 v (by omega)) (fun a ha hb => by
        by_cases z : a = e
        · subst z; exact absurd hb q
        · rw [stp_ne (by omega)]; exact h2 a (by omega) hb)
      exact ⟨h', x1, x2, x3, fun c i c1 c2 => by rw [x4 c i c1 c2, stp_ne (Or.inl c2)]⟩
section SB
variable {F d n s : Nat} {ar : List Nat} {tb : Nat → Nat → Int}
theorem sub0_L {u3 : Int} {k : Int → Int → HF → RO} (hd : d < 8) (hw : WF n ar tb) (hs : s < 2 ^ n) : ∀ (m a N : Nat) (h : HF), a + m = n → m + 1 ≤ N → RepM h 184 185 186 187 d n ar tb → (∀ j, j < a → s.testBit j = true → h 206 j = ((bc s j : Nat) : Int)) → ∃ h', LX12_sub_67 F 181 (d : Int) u3 (s : Int) k N ((bc s a : Nat) : Int) (a : Int) h = k (s : Int) ((bc s n : Nat) : Int) h' ∧ (∀ j, j < n → s.testBit j = true → h' 206 j = ((bc s j : Nat) : Int)) ∧ ∀ c i, c ≠ 206 → h' c i = h c i := by
  have hn := hw.1.2
  have h7 := pw_7 hn
  intro m
  induction m with
  | zero =>
    intro a N h ha hN hr h1
    obtain ⟨N, rfl⟩ : ∃ M, N = M + 1 := ⟨N - 1, by omega⟩
    obtain rfl : a = n := by omega
    rw [LX12_sub_67, msz (by omega) hr, if_neg (by omega)]
    exact ⟨h, rfl, h1, fun _ _ _ => rfl⟩
  | succ m ih =>
    intro a N h ha hN hr h1
    obtain ⟨N, rfl⟩ : ∃ M, N = M + 1 := ⟨N - 1, by omega⟩
    have hba := bc_le (x := s) a
    rw [LX12_sub_67, msz (by omega) hr, if_pos (by omega), bit_of (by omega) (by omega)]
    simp only [zjn_eq, zlet_eq]
    rw [wr_s (by omega), wr_s (by omega)]
    by_cases q : s.testBit a = true
    · have eb : bc s (a + 1) = bc s a + 1 := by rw [bc_s, if_pos q]
      rw [if_pos q, if_pos rfl, wtm25 (by omega), ← eb]
      have hr' : RepM (stp h 206 a ((bc s a : Nat) : Int)) 184 185 186 187 d n ar tb := RepM_keep (fun k => ⟨stp_ne (by omega), stp_ne (by omega), stp_ne (by omega), stp_ne (by omega)⟩) hr
      obtain ⟨h', x1, x2, x3⟩ := ih (a + 1) N _ (by omega) (by omega) hr' (fun j hj hb => by
        by_cases z : j = a
        · subst z; rw [stp_eq]
        · rw [stp_ne (by omega)]; exact h1 j (by omega) hb)
      exact ⟨h', x1, x2, fun c i hc => by rw [x3 c i hc, stp_ne (Or.inl hc)]⟩
    · have eb : bc s (a + 1) = bc s a := by rw [bc_s, if_neg q]; rfl
      rw [if_neg q, if_neg (by decide), ← eb]
      obtain ⟨h', x1, x2, x3⟩ := ih (a + 1) N h (by omega) (by omega) hr (fun j hj hb => by
        by_cases z : j = a
        · subst z; exact absurd hb q
        · exact h1 j (by omega) hb)
      exact ⟨h', x1, x2, x3⟩
/-- what the reference reads there: the source, the new names -/
def SM (h : HF) (d n s : Nat) (ar : List Nat) (tb : Nat → Nat → Int) : Prop := RepM h 184 185 186 187 d n ar tb ∧ ∀ j, j < n → s.testBit j = true → h 206 j = ((bc s j : Nat) : Int)
theorem SM_put {h : HF} {k : Nat} {v : Int} (hd : d < 8) (hw : WF n ar tb) (hk : 1568 ≤ k) (hS : SM h d n s ar tb) : SM (stp h 187 k v) d n s ar tb := by
  obtain ⟨⟨b1, b2, b3, b4⟩, hx⟩ := hS
  refine ⟨⟨by rw [stp_ne (by omega)]; exact b1, by rw [stp_ne (by omega)]; exact b2, fun o ho => by rw [stp_ne (by omega)]; exact b3 o ho, fun o ho k' hk' => ?_⟩, fun j hj hb => by rw [stp_ne (by omega)]; exact hx j hj hb⟩
  have := pw_le hw.1.2 (hw.2.2.1 o ho)
  have := hw.2.1
  rw [stp_ne (by omega)]; exact b4 o ho k' hk'
theorem wi_lt {r a b : Nat} (q : wi r s a b = true) : (1 ≤ r → s.testBit a = true) ∧ (2 ≤ r → s.testBit b = true) := by
  unfold wi at q
  simp only [Bool.and_eq_true, Bool.or_eq_true, decide_eq_true_eq] at q
  exact ⟨fun z => q.1.resolve_left (by omega), fun z => q.2.resolve_left (by omega)⟩
theorem bc_rw {r a : Nat} (ha : a < rwN n r) (hm : 1 ≤ r → s.testBit a = true) : bc s a < rwN (bc s n) r := by
  unfold rwN at ha ⊢
  by_cases q : r = 0
  · rw [if_pos q] at ha ⊢
    obtain rfl : a = 0 := by omega
    exact Nat.zero_lt_one
  · rw [if_neg q] at ha ⊢
    exact bc_step (hm (by omega)) n (by omega)
theorem bc_cl {r b : Nat} (hr : r ≤ 2) (hb : b < clN n r) (hm : 2 ≤ r → s.testBit b = true) : bc s b < clN (bc s n) r := by
  unfold clN at hb ⊢
  by_cases q : r = 2
  · rw [if_pos q] at hb ⊢
    exact bc_step (hm (by omega)) n (by omega)
  · rw [if_neg q] at hb ⊢
    obtain rfl : b = 0 := by omega
    exact Nat.zero_lt_one
theorem sub3_L {u3 u5 : Int} (hd : d < 8) (hw : WF n ar tb) (hs : s < 2 ^ n) (hcl : clP tb n ar s) (hn1 : 1 ≤ bc s n) {o a : Nat} (hol : o < ar.length) (ha : a < rwN n (ar.getD o 0)) {k : Int → HF → RO} : ∀ (m b N : Nat) (h : HF) (T : Nat → Nat → Int), b + m = clN n (ar.getD o 0) → m + 1 ≤ N → SM h d n s ar tb → RepM h 184 185 186 187 8 (bc s n) ar T → Dn ar.length (fun o => rwN n (ar.getD o 0)) (fun o => clN n (ar.getD o 0)) (fun o a b => wi (ar.getD o 0) s a b) (fun o a b => ix (bc s n) (ar.getD o 0) (bc s a) (bc s b)) (fun o a b => ((bc s (vl tb n ar o a b) : Nat) : Int)) T o a b → ∃ h' T', LX12_sub_147 F 181 (d : Int) u3 (s : Int) u5 (o : Int) (a : Int) k N (b : Int) h = k (a : Int) h' ∧ RepM h' 184 185 186 187 8 (bc s n) ar T' ∧ Dn ar.length (fun o => rwN n (ar.getD o 0)) (fun o => clN n (ar.getD o 0)) (fun o a b => wi (ar.getD o 0) s a b) (fun o a b => ix (bc s n) (ar.getD o 0) (bc s a) (bc s b)) (fun o a b => ((bc s (vl tb n ar o a b) : Nat) : Int)) T' o a (clN n (ar.getD o 0)) ∧ ∀ c i, (c ≠ 187 ∨ i < 1568) → h' c i = h c i := by
  have hn := hw.1
  have h7 := pw_7 hn.2
  have hl := hw.2.1
  have h2 := hw.2.2.1 o hol
  have hle := rw_le (n := n) (r := ar.getD o 0) hn.1
  have hbn := bc_le (x := s) n
  intro m
  induction m with
  | zero =>
    intro b N h T hb hN hS hr hD
    obtain ⟨N, rfl⟩ : ∃ M, N = M + 1 := ⟨N - 1, by omega⟩
    rw [LX12_sub_147, upTo1 (by omega) hw hS.1 hol, zbd_some, if_neg (by omega)]
    exact ⟨h, T, rfl, hr, by rw [← show b = clN n (ar.getD o 0) by omega]; exact hD, fun _ _ _ => rfl⟩
  | succ m ih =>
    intro b N h T hb hN hS hr hD
    obtain ⟨N, rfl⟩ : ∃ M, N = M + 1 := ⟨N - 1, by omega⟩
    have hbc : b < clN n (ar.getD o 0) := by omega
    have p1 := bit_of (x := s) (e := a) (by omega) (by omega)
    have p2 := bit_of (x := s) (e := b) (by omega) (by omega)
    have ma := marityG (F := F) (show d < 10 by omega) hl hS.1 hol
    have step : LX12_sub_147 F 181 (d : Int) u3 (s : Int) u5 (o : Int) (a : Int) k (N + 1) (b : Int) h = if wi (ar.getD o 0) s a b = true then (zrd h (181 + 25) (a : Int) fun x14 => zrd h (181 + 25) (b : Int) fun x15 => zbd (fX12_value F 181 (d : Int) (o : Int) (a : Int) (b : Int) h) fun r16 h => zrd h (181 + 25) r16 fun x17 => zbd (fX12_setAt F 181 8 (o : Int) x14 x15 x17 h) fun _ h => LX12_sub_147 F 181 (d : Int) u3 (s : Int) u5 (o : Int) (a : Int) k N ((b + 1 : Nat) : Int) h) else LX12_sub_147 F 181 (d : Int) u3 (s : Int) u5 (o : Int) (a : Int) k N ((b + 1 : Nat) : Int) h := by
      rw [LX12_sub_147, upTo1 (by omega) hw hS.1 hol, zbd_some, if_pos (by omega), ma, zbd_some]
      simp only [zjn_eq, zlet_eq, ma, zbd_some, p1, p2]
      rw [wr_s (by omega)]
      unfold wi
      generalize ar.getD o 0 = r at h2
      have hrc : r = 0 ∨ r = 1 ∨ r = 2 := by omega
      generalize s.testBit a = ta
      generalize s.testBit b = tb'
      rcases hrc with rfl | rfl | rfl <;> cases ta <;> cases tb' <;> rfl
    rw [step]
    by_cases q : wi (ar.getD o 0) s a b = true
    · obtain ⟨wa, wb⟩ := wi_lt q
      have hva := hcl o a b hol ha hbc q
      have hvn := (vl_eq hw hol (show a < n by omega) (show b < n by omega)).2
      have xa : 1 ≤ ar.getD o 0 → h 206 a = ((bc s a : Nat) : Int) := fun z => hS.2 a (by omega) (wa z)
      have xb : 2 ≤ ar.getD o 0 → h 206 b = ((bc s b : Nat) : Int) := fun z => hS.2 b (by omega) (wb z)
      have la : 1 ≤ ar.getD o 0 → bc s a < bc s n := fun z => bc_step (wa z) n (by omega)
      have lb : 2 ≤ ar.getD o 0 → bc s b < bc s n := fun z => bc_step (wb z) n (by omega)
      have es := setAt_eq (F := F) (d := 8) (a := h 206 a) (b := h 206 b) (v := ((bc s (vl tb n ar o a b) : Nat) : Int)) (by decide) (by omega) hl h2 hr hol hn1 (fun z => by rw [xa z]; have := la z; omega) (fun z => by rw [xb z]; have := lb z; omega)
      have ei : ix (bc s n) (ar.getD o 0) (h 206 a).toNat (h 206 b).toNat = ix (bc s n) (ar.getD o 0) (bc s a) (bc s b) := ix_congr (fun z => by rw [xa z, Int.toNat_natCast]) (fun z => by rw [xb z, Int.toNat_natCast])
      rw [ei] at es
      have ha' := bc_rw ha wa
      have hb' := bc_cl h2 hbc wb
      have hp := ix_pw h2 hn1 ha' hb'
      have hS' := SM_put (k := 196 * 8 + 49 * o + ix (bc s n) (ar.getD o 0) (bc s a) (bc s b)) (v := ((bc s (vl tb n ar o a b) : Nat) : Int)) hd hw (by omega) hS
      have hr' := RepM_put8 (v := ((bc s (vl tb n ar o a b) : Nat) : Int)) (by omega) hw.2.2.1 hol hp hr
      have hD' := Dn_put (o := o) (a := a) (b := b) (fun a' b' ha1 hb1 hw1 e => by
        obtain ⟨wa1, wb1⟩ := wi_lt hw1
        obtain ⟨e1, e2⟩ := ix_inj h2 (bc_rw ha1 wa1) (bc_cl h2 hb1 wb1) ha' hb' e
        show ((bc s (vl tb n ar o a' b') : Nat) : Int) = ((bc s (vl tb n ar o a b) : Nat) : Int)
        rw [vl_congr (fun z => bc_inj (wa1 z) (wa z) e1) (fun z => bc_inj (wb1 z) (wb z) e2)]) hD
      obtain ⟨h', T', x1, x2, x3, x4⟩ := ih (b + 1) N _ _ (by omega) (by omega) hS' hr' hD'
      refine ⟨h', T', ?_, x2, x3, fun c i hc => by rw [x4 c i hc, stp_ne (by omega)]⟩
      rw [if_pos q, rdm25 (by omega), rdm25 (by omega), mval (by omega) hw hS.1 hol (by omega) (by omega), zbd_some, rdm25 (by omega), hS.2 _ hvn hva, show fX12_setAt F 181 8 (o : Int) (h 206 a) (h 206 b) ((bc s (vl tb n ar o a b) : Nat) : Int) h = _ from es, zbd_some]
      exact x1
    · have q' : wi (ar.getD o 0) s a b = false := by simpa using q
      rw [if_neg q]
      exact ih (b + 1) N h T (by omega) (by omega) hS hr (Dn_skip q' hD)
theorem sub2_L {u3 u5 : Int} (hF : 8 ≤ F) (hd : d < 8) (hw : WF n ar tb) (hs : s < 2 ^ n) (hcl : clP tb n ar s) (hn1 : 1 ≤ bc s n) {o : Nat} (hol : o < ar.length) {k : Int → HF → RO} : ∀ (m a N : Nat) (h : HF) (T : Nat → Nat → Int), a + m = rwN n (ar.getD o 0) → m + 1 ≤ N → SM h d n s ar tb → RepM h 184 185 186 187 8 (bc s n) ar T → Dn ar.length (fun o => rwN n (ar.getD o 0)) (fun o => clN n (ar.getD o 0)) (fun o a b => wi (ar.getD o 0) s a b) (fun o a b => ix (bc s n) (ar.getD o 0) (bc s a) (bc s b)) (fun o a b => ((bc s (vl tb n ar o a b) : Nat) : Int)) T o a 0 → ∃ h' T', LX12_sub_131 F 181 (d : Int) u3 (s : Int) u5 (o : Int) k N (a : Int) h = k (o : Int) h' ∧ RepM h' 184 185 186 187 8 (bc s n) ar T' ∧ Dn ar.length (fun o => rwN n (ar.getD o 0)) (fun o => clN n (ar.getD o 0)) (fun o a b => wi (ar.getD o 0) s a b) (fun o a b => ix (bc s n) (ar.getD o 0) (bc s a) (bc s b)) (fun o a b => ((bc s (vl tb n ar o a b) : Nat) : Int)) T' (o + 1) 0 0 ∧ ∀ c i, (c ≠ 187 ∨ i < 1568) → h' c i = h c i := by
  have hn := hw.1
  have hl := hw.2.1
  have hle := rw_le (n := n) (r := ar.getD o 0) hn.1
  intro m
  induction m with
  | zero =>
    intro a N h T ha hN hS hr hD
    obtain ⟨N, rfl⟩ : ∃ M, N = M + 1 := ⟨N - 1, by omega⟩
    rw [LX12_sub_131, upTo0 (by omega) hw hS.1 hol, zbd_some, if_neg (by omega)]
    exact ⟨h, T, rfl, hr, Dn_o (show rwN n (ar.getD o 0) ≤ a by omega) hD, fun _ _ _ => rfl⟩
  | succ m ih =>
    intro a N h T ha hN hS hr hD
    obtain ⟨N, rfl⟩ : ∃ M, N = M + 1 := ⟨N - 1, by omega⟩
    obtain ⟨g, T1, y1, y2, y3, y4⟩ := sub3_L (F := F) (u3 := u3) (u5 := u5) hd hw hs hcl hn1 hol (show a < rwN n (ar.getD o 0) by omega) (k := fun x260_7 h => LX12_sub_131 F 181 (d : Int) u3 (s : Int) u5 (o : Int) k N (wr (x260_7 + 1)) h) (clN n (ar.getD o 0)) 0 F h T (by omega) (by omega) hS hr hD
    have hS' : SM g d n s ar tb := ⟨by
      obtain ⟨⟨b1, b2, b3, b4⟩, hx⟩ := hS
      refine ⟨by rw [y4 _ _ (by omega)]; exact b1, by rw [y4 _ _ (by omega)]; exact b2, fun o ho => by rw [y4 _ _ (by omega)]; exact b3 o ho, fun o ho k' hk' => ?_⟩
      have := pw_le hn.2 (hw.2.2.1 o ho)
      rw [y4 _ _ (by omega)]; exact b4 o ho k' hk', fun j hj hb => by rw [y4 _ _ (by omega)]; exact hS.2 j hj hb⟩
    obtain ⟨h', T', x1, x2, x3, x4⟩ := ih (a + 1) N g T1 (by omega) (by omega) hS' y2 (Dn_a (Nat.le_refl _) y3)
    refine ⟨h', T', ?_, x2, x3, fun c i hc => by rw [x4 c i hc, y4 c i hc]⟩
    rw [LX12_sub_131, upTo0 (by omega) hw hS.1 hol, zbd_some, if_pos (by omega)]
    refine y1.trans ?_
    show LX12_sub_131 F 181 (d : Int) u3 (s : Int) u5 (o : Int) k N (wr ((a : Int) + 1)) g = _
    rw [wr_s (by omega)]
    exact x1
theorem sub1_L {u3 u5 : Int} (hF : 8 ≤ F) (hd : d < 8) (hw : WF n ar tb) (hs : s < 2 ^ n) (hcl : clP tb n ar s) (hn1 : 1 ≤ bc s n) {k : Int → HF → RO} : ∀ (m o N : Nat) (h : HF) (T : Nat → Nat → Int), o + m = ar.length → m + 1 ≤ N → SM h d n s ar tb → RepM h 184 185 186 187 8 (bc s n) ar T → Dn ar.length (fun o => rwN n (ar.getD o 0)) (fun o => clN n (ar.getD o 0)) (fun o a b => wi (ar.getD o 0) s a b) (fun o a b => ix (bc s n) (ar.getD o 0) (bc s a) (bc s b)) (fun o a b => ((bc s (vl tb n ar o a b) : Nat) : Int)) T o 0 0 → ∃ h' T', LX12_sub_117 F 181 (d : Int) u3 (s : Int) u5 k N (o : Int) h = k u5 h' ∧ RepM h' 184 185 186 187 8 (bc s n) ar T' ∧ Dn ar.length (fun o => rwN n (ar.getD o 0)) (fun o => clN n (ar.getD o 0)) (fun o a b => wi (ar.getD o 0) s a b) (fun o a b => ix (bc s n) (ar.getD o 0) (bc s a) (bc s b)) (fun o a b => ((bc s (vl tb n ar o a b) : Nat) : Int)) T' ar.length 0 0 ∧ ∀ c i, (c ≠ 187 ∨ i < 1568) → h' c i = h c i := by
  have hn := hw.1
  have hl := hw.2.1
  intro m
  induction m with
  | zero =>
    intro o N h T ho hN hS hr hD
    obtain ⟨N, rfl⟩ : ∃ M, N = M + 1 := ⟨N - 1, by omega⟩
    rw [LX12_sub_117, mops (by omega) hS.1, if_neg (by omega)]
    have eo : o = ar.length := by omega
    rw [eo] at hD
    exact ⟨h, T, rfl, hr, hD, fun _ _ _ => rfl⟩
  | succ m ih =>
    intro o N h T ho hN hS hr hD
    obtain ⟨N, rfl⟩ : ∃ M, N = M + 1 := ⟨N - 1, by omega⟩
    have hle := rw_le (n := n) (r := ar.getD o 0) hn.1
    obtain ⟨g, T1, y1, y2, y3, y4⟩ := sub2_L (F := F) (u3 := u3) (u5 := u5) hF hd hw hs hcl hn1 (show o < ar.length by omega) (k := fun x266_6 h => LX12_sub_117 F 181 (d : Int) u3 (s : Int) u5 k N (wr (x266_6 + 1)) h) (rwN n (ar.getD o 0)) 0 F h T (by omega) (by omega) hS hr hD
    have hS' : SM g d n s ar tb := ⟨by
      obtain ⟨⟨b1, b2, b3, b4⟩, hx⟩ := hS
      refine ⟨by rw [y4 _ _ (by omega)]; exact b1, by rw [y4 _ _ (by omega)]; exact b2, fun o ho => by rw [y4 _ _ (by omega)]; exact b3 o ho, fun o ho k' hk' => ?_⟩
      have := pw_le hn.2 (hw.2.2.1 o ho)
      rw [y4 _ _ (by omega)]; exact b4 o ho k' hk', fun j hj hb => by rw [y4 _ _ (by omega)]; exact hS.2 j hj hb⟩
    obtain ⟨h', T', x1, x2, x3, x4⟩ := ih (o + 1) N g T1 (by omega) (by omega) hS' y2 y3
    refine ⟨h', T', ?_, x2, x3, fun c i hc => by rw [x4 c i hc, y4 c i hc]⟩
    rw [LX12_sub_117, mops (by omega) hS.1, if_pos (by omega)]
    refine y1.trans ?_
    show LX12_sub_117 F 181 (d : Int) u3 (s : Int) u5 k N (wr ((o : Int) + 1)) g = _
    rw [wr_s (by omega)]
    exact x1
end SB
