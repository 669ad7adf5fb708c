/-! quotient -/
theorem cdR_snoc {l : List Nat} : ∀ (m i v : Nat), cdR l i v (m + 1) = cdR l i v m * 7 + l.getD (i + m) 0
  | 0, i, v => rfl
  | m + 1, i, v => by
    have := cdR_snoc (l := l) m (i + 1) (v * 7 + l.getD i 0)
    rw [show i + (m + 1) = i + 1 + m by omega]
    exact this
theorem cdR_lt {l : List Nat} (h6 : ∀ i, l.getD i 0 < 7) : ∀ m, cdR l 0 0 m < 7 ^ m
  | 0 => by show 0 < 1; decide
  | m + 1 => by
    have := cdR_lt h6 m
    have := h6 (0 + m)
    rw [cdR_snoc, Nat.pow_succ]
    omega
theorem dec_L {F c n : Nat} {x : List Nat} {k : HF → RO} (hc : kl c = 7) (hl : x.length = n) (hn : n ≤ 7) (h6 : ∀ i, x.getD i 0 < 7) : ∀ (m N : Nat) (h : HF), m ≤ n → m + 1 ≤ N → (∀ i, m ≤ i → i < n → h c i = ((x.getD i 0 : Nat) : Int)) → ∃ h', LX2_decode_13 F c k N ((cdR x 0 0 m : Nat) : Int) ((m : Int) - 1) h = k h' ∧ LN h' c x ∧ ∀ c' i, c' ≠ c → h' c' i = h c' i := by
  intro m
  induction m with
  | zero =>
    intro N h hm hN hx
    obtain ⟨N, rfl⟩ : ∃ M, N = M + 1 := ⟨N - 1, by omega⟩
    rw [LX2_decode_13, if_pos (by omega)]
    exact ⟨h, rfl, fun i hi => hx i (Nat.zero_le _) (by omega), fun _ _ _ => rfl⟩
  | succ m ih =>
    intro N h hm hN hx
    obtain ⟨N, rfl⟩ : ∃ M, N = M + 1 := ⟨N - 1, by omega⟩
    have hs := cdR_snoc (l := x) m 0 0
    rw [Nat.zero_add] at hs
    have hlt := cdR_lt h6 (m + 1)
    have hp := pow7 (m + 1) (by omega)
    have hxm := h6 m
    have e1 : cdR x 0 0 (m + 1) % 7 = x.getD m 0 := by omega
    have e2 : cdR x 0 0 (m + 1) / 7 = cdR x 0 0 m := by omega
    obtain ⟨h', x1, x2, x3⟩ := ih N (stp h c m ((x.getD m 0 : Nat) : Int)) (by omega) (by omega) (fun i h1 h2 => by
      by_cases z : i = m
      · subst z; rw [stp_eq]
      · rw [stp_ne (Or.inr z)]; exact hx i (by omega) h2)
    refine ⟨h', ?_, x2, fun c' i hc' => by rw [x3 c' i hc', stp_ne (Or.inl hc')]⟩
    rw [LX2_decode_13, if_neg (by omega), show ((m + 1 : Nat) : Int) - 1 = (m : Int) by omega, zdv_ok (by decide), show (7 : Int) = ((7 : Nat) : Int) from rfl, wrem_N (by omega), zwr_ok (a := c) ⟨by omega, by rw [hc]; omega⟩, Int.toNat_natCast, zdv_ok (by decide), wdiv_N (by omega), e1, e2, zlet_eq, zlet_eq, wr_id ⟨by omega, by omega⟩, show (m : Int) + (-1) = (m : Int) - 1 by omega]
    exact x1
theorem decode_eq {F A c n : Nat} {x : List Nat} {h : HF} (hF : 9 ≤ F) (hc : kl c = 7) (hl : x.length = n) (hn : n ≤ 7) (h6 : ∀ i, x.getD i 0 < 7) (hA : h 94 4 = (A : Int)) (h0 : h A 0 = (n : Int)) : ∃ h', fX2_decode F 94 ((cdR x 0 0 n : Nat) : Int) c h = some (0, h') ∧ LN h' c x ∧ ∀ c' i, c' ≠ c → h' c' i = h c' i := by
  obtain ⟨h', x1, x2, x3⟩ := dec_L (F := F) (k := fun h => some (0, h)) hc hl hn h6 n F h (Nat.le_refl _) (by omega) (fun i h1 h2 => absurd h2 (by omega))
  refine ⟨h', ?_, x2, x3⟩
  unfold fX2_decode
  rw [zgd_at hA]
  simp only [zjn_eq, zlet_eq, zgf]
  rw [h0, wr_id ⟨by omega, by omega⟩]
  exact x1
/-- the leaders of a line, as bits -/
def lds (n : Nat) (x : List Nat) : Nat := bts (fun a => decide (x.getD a 0 = a)) n
theorem lds_bit {n a : Nat} {x : List Nat} (ha : a < n) : (lds n x).testBit a = true ↔ x.getD a 0 = a := by
  unfold lds
  rw [bts_bit, decide_eq_true ha, Bool.true_and, decide_eq_true_eq]
theorem numC_L {F n : Nat} {x : List Nat} {k : Int → HF → RO} (hn : n ≤ 7) (hl : x.length = n) (hB : BD x) (hln : lnB n x = true) : ∀ (m e N : Nat) (h : HF), e + m = n → m + 1 ≤ N → LN h 96 x → (∀ v, v < e → h 116 v = ((bc (lds n x) (x.getD v 0) : Nat) : Int)) → (∀ a, a < e → (lds n x).testBit a = true → h 115 (bc (lds n x) a) = (a : Int)) → ∃ h', LX11_numberClasses_5 F 0 96 (n : Int) k N ((bc (lds n x) e : Nat) : Int) (e : Int) h = k ((bc (lds n x) n : Nat) : Int) h' ∧ (∀ v, v < n → h' 116 v = ((bc (lds n x) (x.getD v 0) : Nat) : Int)) ∧ (∀ a, a < n → (lds n x).testBit a = true → h' 115 (bc (lds n x) a) = (a : Int)) ∧ ∀ c i, c ≠ 115 → c ≠ 116 → h' c i = h c i := by
  have k5 : kl 115 = 7 := by decide +kernel
  have k6 : kl 116 = 7 := by decide +kernel
  intro m
  induction m with
  | zero =>
    intro e N h he hN hL h1 h2
    obtain ⟨N, rfl⟩ : ∃ M, N = M + 1 := ⟨N - 1, by omega⟩
    obtain rfl : e = n := by omega
    rw [LX11_numberClasses_5, if_neg (by omega)]
    exact ⟨h, rfl, h1, h2, fun _ _ _ _ => rfl⟩
  | succ m ih =>
    intro e N h he hN hL h1 h2
    obtain ⟨N, rfl⟩ : ∃ M, N = M + 1 := ⟨N - 1, by omega⟩
    have hbe := bc_le (x := lds n x) e
    have hBe := hB e
    have rd := fun (f : Int → RO) => rd96 (f := f) hL (by omega) (show e < x.length by omega)
    rw [LX11_numberClasses_5, if_pos (by omega), show zrd h 96 (e : Int) = zrd h (94 + 2) (e : Int) from rfl, rd]
    simp only [zjn_eq, zlet_eq]
    rw [wr_s (by omega), wr_s (by omega)]
    by_cases q : x.getD e 0 = e
    · have qb := (lds_bit (show e < n by omega)).mpr q
      have eb : bc (lds n x) (e + 1) = bc (lds n x) e + 1 := by rw [bc_s, if_pos qb]
      rw [if_pos (by omega), zwr_ok (a := 0 + 115) ⟨by omega, by rw [show kl (0 + 115) = 7 from k5]; omega⟩, Int.toNat_natCast, zwr_ok (a := 0 + 116) ⟨by omega, by rw [show kl (0 + 116) = 7 from k6]; omega⟩, Int.toNat_natCast, ← eb]
      obtain ⟨h', x1, x2, x3, x4⟩ := ih (e + 1) N (stp (stp h 115 (bc (lds n x) e) (e : Int)) 116 e ((bc (lds n x) e : Nat) : Int)) (by omega) (by omega) (LN_keep (fun i => by rw [stp_ne (by omega), stp_ne (by omega)]) hL) (fun v hv => by
        by_cases z : v = e
        · subst z; rw [stp_eq, q]
        · rw [stp_ne (by omega), stp_ne (by omega)]; exact h1 v (by omega)) (fun a ha hb => by
        rw [stp_ne (by omega)]
        by_cases z : a = e
        · subst z; rw [stp_eq]
        · have := bc_step hb e (by omega)
          rw [stp_ne (by omega)]; exact h2 a (by omega) hb)
      exact ⟨h', x1, x2, x3, fun c i c1 c2 => by rw [x4 c i c1 c2, stp_ne (Or.inl c2), stp_ne (Or.inl c1)]⟩
    · have qb : ¬ (lds n x).testBit e = true := fun z => q ((lds_bit (show e < n by omega)).mp z)
      have eb : bc (lds n x) (e + 1) = bc (lds n x) e := by rw [bc_s, if_neg qb]; rfl
      have hid := ln_idem hln (show e < n by omega)
      have hv := h1 (x.getD e 0) (by omega)
      rw [hid] at hv
      rw [if_neg (by omega), show zrd h 96 (e : Int) = zrd h (94 + 2) (e : Int) from rfl, rd, zrd_ok (a := 0 + 116) ⟨by omega, by rw [show kl (0 + 116) = 7 from k6]; omega⟩, Int.toNat_natCast, show h (0 + 116) (x.getD e 0) = _ from hv, zwr_ok (a := 0 + 116) ⟨by omega, by rw [show kl (0 + 116) = 7 from k6]; omega⟩, Int.toNat_natCast, ← eb]
      obtain ⟨h', x1, x2, x3, x4⟩ := ih (e + 1) N (stp h 116 e ((bc (lds n x) (x.getD e 0) : Nat) : Int)) (by omega) (by omega) (LN_keep (fun i => stp_ne (by omega)) hL) (fun v hv => by
        by_cases z : v = e
        · subst z; rw [stp_eq]
        · rw [stp_ne (by omega)]; exact h1 v (by omega)) (fun a ha hb => by
        by_cases z : a = e
        · subst z; exact absurd hb qb
        · rw [stp_ne (by omega)]; exact h2 a (by omega) hb)
      exact ⟨h', x1, x2, x3, fun c i c1 c2 => by rw [x4 c i c1 c2, stp_ne (Or.inl c2)]⟩
section QM
variable {F d n : Nat} {ar : List Nat} {tb : Nat → Nat → Int} {x : List Nat}
theorem quo0_L {u3 : Int} {k : Int → HF → RO} (hd : d < 8) (hw : WF n ar tb) (hl : x.length = n) : ∀ (m a N : Nat) (h : HF), a + m = n → m + 1 ≤ N → RepM h 184 185 186 187 d n ar tb → LN h 207 x → (∀ j, j < a → (lds n x).testBit j = true → h 206 j = ((bc (lds n x) j : Nat) : Int)) → ∃ h', LX12_quotient_58 F 181 (d : Int) u3 k N ((bc (lds n x) a : Nat) : Int) (a : Int) h = k ((bc (lds n x) n : Nat) : Int) h' ∧ (∀ j, j < n → (lds n x).testBit j = true → h' 206 j = ((bc (lds n x) j : Nat) : Int)) ∧ ∀ c i, c ≠ 206 → h' c i = h c i := by
  have hn := hw.1.2
  intro m
  induction m with
  | zero =>
    intro a N h ha hN hr hL h1
    obtain ⟨N, rfl⟩ : ∃ M, N = M + 1 := ⟨N - 1, by omega⟩
    obtain rfl : a = n := by omega
    rw [LX12_quotient_58, msz (by omega) hr, if_neg (by omega)]
    exact ⟨h, rfl, h1, fun _ _ _ => rfl⟩
  | succ m ih =>
    intro a N h ha hN hr hL h1
    obtain ⟨N, rfl⟩ : ∃ M, N = M + 1 := ⟨N - 1, by omega⟩
    have hba := bc_le (x := lds n x) a
    rw [LX12_quotient_58, msz (by omega) hr, if_pos (by omega), rdm26 (by omega), hL a (by omega)]
    simp only [zjn_eq, zlet_eq]
    rw [wr_s (by omega), wr_s (by omega)]
    by_cases q : x.getD a 0 = a
    · have qb := (lds_bit (show a < n by omega)).mpr q
      have eb : bc (lds n x) (a + 1) = bc (lds n x) a + 1 := by rw [bc_s, if_pos qb]
      rw [if_pos (by omega), wtm25 (by omega), ← eb]
      obtain ⟨h', x1, x2, x3⟩ := ih (a + 1) N (stp h 206 a ((bc (lds n x) a : Nat) : Int)) (by omega) (by omega) (RepM_keep (fun k => ⟨stp_ne (by omega), stp_ne (by omega), stp_ne (by omega), stp_ne (by omega)⟩) hr) (LN_keep (fun i => stp_ne (by omega)) hL) (fun j hj hb => by
        by_cases z : j = a
        · subst z; rw [stp_eq]
        · rw [stp_ne (by omega)]; exact h1 j (by omega) hb)
      exact ⟨h', x1, x2, fun c i hc => by rw [x3 c i hc, stp_ne (Or.inl hc)]⟩
    · have qb : ¬ (lds n x).testBit a = true := fun z => q ((lds_bit (show a < n by omega)).mp z)
      have eb : bc (lds n x) (a + 1) = bc (lds n x) a := by rw [bc_s, if_neg qb]; rfl
      rw [if_neg (by omega), ← eb]
      obtain ⟨h', x1, x2, x3⟩ := ih (a + 1) N h (by omega) (by omega) hr hL (fun j hj hb => by
        by_cases z : j = a
        · subst z; exact absurd hb qb
        · exact h1 j (by omega) hb)
      exact ⟨h', x1, x2, x3⟩
def QH (h : HF) (d n : Nat) (ar : List Nat) (tb : Nat → Nat → Int) (x : List Nat) : Prop := RepM h 184 185 186 187 d n ar tb ∧ LN h 207 x ∧ ∀ j, j < n → (lds n x).testBit j = true → h 206 j = ((bc (lds n x) j : Nat) : Int)
theorem QH_keep {h h' : HF} (hd : d < 8) (hw : WF n ar tb) (e : ∀ c i, (c ≠ 187 ∨ i < 1568) → h' c i = h c i) (hQ : QH h d n ar tb x) : QH h' d n ar tb x := ⟨RepM_row hd hw (fun c q hq => e c q (by omega)) hQ.1, LN_keep (fun i => e _ _ (by omega)) hQ.2.1, fun j hj hb => by rw [e _ _ (by omega)]; exact hQ.2.2 j hj hb⟩
theorem quo3_L {u3 u4 : Int} (hd : d < 8) (hw : WF n ar tb) (hl : x.length = n) (hB : BD x) (hln : lnB n x = true) (hcg : cgP tb n ar x) (hn1 : 1 ≤ bc (lds n x) n) {o a : Nat} (hol : o < ar.length) (ha : a < rwN n (ar.getD o 0)) {k : Int → HF → RO} : ∀ (m b N : Nat) (h : HF) (T : Nat → Nat → Int), b + m = clN n (ar.getD o 0) → m + 1 ≤ N → QH h d n ar tb x → RepM h 184 185 186 187 8 (bc (lds n x) n) ar T → Dn ar.length (fun o => rwN n (ar.getD o 0)) (fun o => clN n (ar.getD o 0)) (fun _ _ _ => true) (fun o a b => ix (bc (lds n x) n) (ar.getD o 0) (bc (lds n x) (x.getD a 0)) (bc (lds n x) (x.getD b 0))) (fun o a b => ((bc (lds n x) (x.getD (vl tb n ar o a b) 0) : Nat) : Int)) T o a b → ∃ h' T', LX12_quotient_139 F 181 (d : Int) u3 u4 (o : Int) (a : Int) k N (b : Int) h = k (a : Int) h' ∧ RepM h' 184 185 186 187 8 (bc (lds n x) n) ar T' ∧ Dn ar.length (fun o => rwN n (ar.getD o 0)) (fun o => clN n (ar.getD o 0)) (fun _ _ _ => true) (fun o a b => ix (bc (lds n x) n) (ar.getD o 0) (bc (lds n x) (x.getD a 0)) (bc (lds n x) (x.getD b 0))) (fun o a b => ((bc (lds n x) (x.getD (vl tb n ar o a b) 0) : Nat) : Int)) T' o a (clN n (ar.getD o 0)) ∧ ∀ c i, (c ≠ 187 ∨ i < 1568) → h' c i = h c i := by
  have hn := hw.1
  have hl4 := hw.2.1
  have h2 := hw.2.2.1 o hol
  have hle := rw_le (n := n) (r := ar.getD o 0) hn.1
  have hbn := bc_le (x := lds n x) n
  have ldr : ∀ v, v < n → (lds n x).testBit (x.getD v 0) = true ∧ x.getD v 0 < n := fun v hv => by
    have := hB v
    exact ⟨(lds_bit (by omega)).mpr (ln_idem hln hv), by omega⟩
  have hx0 : x.getD 0 0 = 0 := by have := hB 0; omega
  have mem : ∀ v, v < n → bc (lds n x) (x.getD v 0) < bc (lds n x) n := fun v hv => bc_step (ldr v hv).1 n (by have := (ldr v hv).2; omega)
  have rwb : ∀ a', a' < rwN n (ar.getD o 0) → bc (lds n x) (x.getD a' 0) < rwN (bc (lds n x) n) (ar.getD o 0) := fun a' ha' => by
    unfold rwN at ha' ⊢
    by_cases q : ar.getD o 0 = 0
    · rw [if_pos q] at ha' ⊢
      obtain rfl : a' = 0 := by omega
      rw [hx0]; exact Nat.zero_lt_one
    · rw [if_neg q] at ha' ⊢
      exact mem a' ha'
  have clb : ∀ b', b' < clN n (ar.getD o 0) → bc (lds n x) (x.getD b' 0) < clN (bc (lds n x) n) (ar.getD o 0) := fun b' hb' => by
    unfold clN at hb' ⊢
    by_cases q : ar.getD o 0 = 2
    · rw [if_pos q] at hb' ⊢
      exact mem b' hb'
    · rw [if_neg q] at hb' ⊢
      obtain rfl : b' = 0 := by omega
      rw [hx0]; exact Nat.zero_lt_one
  intro m
  induction m with
  | zero =>
    intro b N h T hb hN hQ hr hD
    obtain ⟨N, rfl⟩ : ∃ M, N = M + 1 := ⟨N - 1, by omega⟩
    rw [LX12_quotient_139, upTo1 (by omega) hw hQ.1 hol, zbd_some, if_neg (by omega)]
    exact ⟨h, T, rfl, hr, by rw [← show b = clN n (ar.getD o 0) by omega]; exact hD, fun _ _ _ => rfl⟩
  | succ m ih =>
    intro b N h T hb hN hQ hr hD
    obtain ⟨N, rfl⟩ : ∃ M, N = M + 1 := ⟨N - 1, by omega⟩
    have hbc : b < clN n (ar.getD o 0) := by omega
    have hvn := (vl_eq hw hol (show a < n by omega) (show b < n by omega)).2
    have la := ldr a (by omega)
    have lb := ldr b (by omega)
    have lv := ldr _ hvn
    have ma := mem a (by omega)
    have mb := mem b (by omega)
    have es := setAt_eq (F := F) (d := 8) (a := ((bc (lds n x) (x.getD a 0) : Nat) : Int)) (b := ((bc (lds n x) (x.getD b 0) : Nat) : Int)) (v := ((bc (lds n x) (x.getD (vl tb n ar o a b) 0) : Nat) : Int)) (by decide) (by omega) hl4 h2 hr hol hn1 (fun z => by omega) (fun z => by omega)
    rw [Int.toNat_natCast, Int.toNat_natCast] at es
    have ha' := rwb a ha
    have hb' := clb b hbc
    have hp := ix_pw h2 hn1 ha' hb'
    have hQ' : QH (stp h 187 (196 * 8 + 49 * o + ix (bc (lds n x) n) (ar.getD o 0) (bc (lds n x) (x.getD a 0)) (bc (lds n x) (x.getD b 0))) ((bc (lds n x) (x.getD (vl tb n ar o a b) 0) : Nat) : Int)) d n ar tb x := QH_keep hd hw (fun c i hc => stp_ne (by omega)) hQ
    have hr' := RepM_put8 (v := ((bc (lds n x) (x.getD (vl tb n ar o a b) 0) : Nat) : Int)) (by omega) hw.2.2.1 hol hp hr
    have hD' := Dn_put (o := o) (a := a) (b := b) (fun a' b' ha1 hb1 _ e => by
      obtain ⟨e1, e2⟩ := ix_inj h2 (rwb a' ha1) (clb b' hb1) ha' hb' e
      have ea := bc_inj (ldr a' (by omega)).1 la.1 e1
      have eb := bc_inj (ldr b' (by omega)).1 lb.1 e2
      show ((bc (lds n x) (x.getD (vl tb n ar o a' b') 0) : Nat) : Int) = ((bc (lds n x) (x.getD (vl tb n ar o a b) 0) : Nat) : Int)
      rw [hcg o a' b' hol ha1 hb1, hcg o a b hol ha hbc, ea, eb]) hD
    obtain ⟨h', T', x1, x2, x3, x4⟩ := ih (b + 1) N _ _ (by omega) (by omega) hQ' hr' hD'
    refine ⟨h', T', ?_, x2, x3, fun c i hc => by rw [x4 c i hc, stp_ne (by omega)]⟩
    rw [LX12_quotient_139, upTo1 (by omega) hw hQ.1 hol, zbd_some, if_pos (by omega), rdm26 (by omega), hQ.2.1 a (by omega), rdm25 (by omega), hQ.2.2 _ la.2 la.1, rdm26 (by omega), hQ.2.1 b (by omega), rdm25 (by omega), hQ.2.2 _ lb.2 lb.1, mval (by omega) hw hQ.1 hol (by omega) (by omega), zbd_some, rdm26 (by omega), hQ.2.1 _ (by omega), rdm25 (by omega), hQ.2.2 _ lv.2 lv.1, show fX12_setAt F 181 8 (o : Int) ((bc (lds n x) (x.getD a 0) : Nat) : Int) ((bc (lds n x) (x.getD b 0) : Nat) : Int) ((bc (lds n x) (x.getD (vl tb n ar o a b) 0) : Nat) : Int) h = _ from es, zbd_some, zlet_eq, wr_s (by omega)]
    exact x1
theorem quo2_L {u3 u4 : Int} (hF : 8 ≤ F) (hd : d < 8) (hw : WF n ar tb) (hl : x.length = n) (hB : BD x) (hln : lnB n x = true) (hcg : cgP tb n ar x) (hn1 : 1 ≤ bc (lds n x) n) {o : Nat} (hol : o < ar.length) {k : Int → HF → RO} : ∀ (m a N : Nat) (h : HF) (T : Nat → Nat → Int), a + m = rwN n (ar.getD o 0) → m + 1 ≤ N → QH h d n ar tb x → RepM h 184 185 186 187 8 (bc (lds n x) n) ar T → Dn ar.length (fun o => rwN n (ar.getD o 0)) (fun o => clN n (ar.getD o 0)) (fun _ _ _ => true) (fun o a b => ix (bc (lds n x) n) (ar.getD o 0) (bc (lds n x) (x.getD a 0)) (bc (lds n x) (x.getD b 0))) (fun o a b => ((bc (lds n x) (x.getD (vl tb n ar o a b) 0) : Nat) : Int)) T o a 0 → ∃ h' T', LX12_quotient_123 F 181 (d : Int) u3 u4 (o : Int) k N (a : Int) h = k (o : Int) h' ∧ RepM h' 184 185 186 187 8 (bc (lds n x) n) ar T' ∧ Dn ar.length (fun o => rwN n (ar.getD o 0)) (fun o => clN n (ar.getD o 0)) (fun _ _ _ => true) (fun o a b => ix (bc (lds n x) n) (ar.getD o 0) (bc (lds n x) (x.getD a 0)) (bc (lds n x) (x.getD b 0))) (fun o a b => ((bc (lds n x) (x.getD (vl tb n ar o a b) 0) : Nat) : Int)) T' (o + 1) 0 0 ∧ ∀ c i, (c ≠ 187 ∨ i < 1568) → h' c i = h c i := by
  have hn := hw.1
  have hle := rw_le (n := n) (r := ar.getD o 0) hn.1
  intro m
  induction m with
  | zero =>
    intro a N h T ha hN hQ hr hD
    obtain ⟨N, rfl⟩ : ∃ M, N = M + 1 := ⟨N - 1, by omega⟩
    rw [LX12_quotient_123, upTo0 (by omega) hw hQ.1 hol, zbd_some, if_neg (by omega)]
    exact ⟨h, T, rfl, hr, Dn_o (show rwN n (ar.getD o 0) ≤ a by omega) hD, fun _ _ _ => rfl⟩
  | succ m ih =>
    intro a N h T ha hN hQ hr hD
    obtain ⟨N, rfl⟩ : ∃ M, N = M + 1 := ⟨N - 1, by omega⟩
    obtain ⟨g, T1, y1, y2, y3, y4⟩ := quo3_L (F := F) (u3 := u3) (u4 := u4) hd hw hl hB hln hcg hn1 hol (show a < rwN n (ar.getD o 0) by omega) (k := fun x211_6 h => LX12_quotient_123 F 181 (d : Int) u3 u4 (o : Int) k N (wr (x211_6 + 1)) h) (clN n (ar.getD o 0)) 0 F h T (by omega) (by omega) hQ hr hD
    obtain ⟨h', T', x1, x2, x3, x4⟩ := ih (a + 1) N g T1 (by omega) (by omega) (QH_keep hd hw y4 hQ) y2 (Dn_a (Nat.le_refl _) y3)
    refine ⟨h', T', ?_, x2, x3, fun c i hc => by rw [x4 c i hc, y4 c i hc]⟩
    rw [LX12_quotient_123, upTo0 (by omega) hw hQ.1 hol, zbd_some, if_pos (by omega)]
    refine y1.trans ?_
    show LX12_quotient_123 F 181 (d : Int) u3 u4 (o : Int) k N (wr ((a : Int) + 1)) g = _
    rw [wr_s (by omega)]
    exact x1
theorem quo1_L {u3 u4 : Int} (hF : 8 ≤ F) (hd : d < 8) (hw : WF n ar tb) (hl : x.length = n) (hB : BD x) (hln : lnB n x = true) (hcg : cgP tb n ar x) (hn1 : 1 ≤ bc (lds n x) n) {k : Int → HF → RO} : ∀ (m o N : Nat) (h : HF) (T : Nat → Nat → Int), o + m = ar.length → m + 1 ≤ N → QH h d n ar tb x → RepM h 184 185 186 187 8 (bc (lds n x) n) ar T → Dn ar.length (fun o => rwN n (ar.getD o 0)) (fun o => clN n (ar.getD o 0)) (fun _ _ _ => true) (fun o a b => ix (bc (lds n x) n) (ar.getD o 0) (bc (lds n x) (x.getD a 0)) (bc (lds n x) (x.getD b 0))) (fun o a b => ((bc (lds n x) (x.getD (vl tb n ar o a b) 0) : Nat) : Int)) T o 0 0 → ∃ h' T', LX12_quotient_109 F 181 (d : Int) u3 u4 k N (o : Int) h = k u4 h' ∧ RepM h' 184 185 186 187 8 (bc (lds n x) n) ar T' ∧ Dn ar.length (fun o => rwN n (ar.getD o 0)) (fun o => clN n (ar.getD o 0)) (fun _ _ _ => true) (fun o a b => ix (bc (lds n x) n) (ar.getD o 0) (bc (lds n x) (x.getD a 0)) (bc (lds n x) (x.getD b 0))) (fun o a b => ((bc (lds n x) (x.getD (vl tb n ar o a b) 0) : Nat) : Int)) T' ar.length 0 0 ∧ ∀ c i, (c ≠ 187 ∨ i < 1568) → h' c i = h c i := by
  have hn := hw.1
  have hl4 := hw.2.1
  intro m
  induction m with
  | zero =>
    intro o N h T ho hN hQ hr hD
    obtain ⟨N, rfl⟩ : ∃ M, N = M + 1 := ⟨N - 1, by omega⟩
    rw [LX12_quotient_109, mops (by omega) hQ.1, if_neg (by omega)]
    have eo : o = ar.length := by omega
    rw [eo] at hD
    exact ⟨h, T, rfl, hr, hD, fun _ _ _ => rfl⟩
  | succ m ih =>
    intro o N h T ho hN hQ hr hD
    obtain ⟨N, rfl⟩ : ∃ M, N = M + 1 := ⟨N - 1, by omega⟩
    have hle := rw_le (n := n) (r := ar.getD o 0) hn.1
    obtain ⟨g, T1, y1, y2, y3, y4⟩ := quo2_L (F := F) (u3 := u3) (u4 := u4) hF hd hw hl hB hln hcg hn1 (show o < ar.length by omega) (k := fun x217_5 h => LX12_quotient_109 F 181 (d : Int) u3 u4 k N (wr (x217_5 + 1)) h) (rwN n (ar.getD o 0)) 0 F h T (by omega) (by omega) hQ hr hD
    obtain ⟨h', T', x1, x2, x3, x4⟩ := ih (o + 1) N g T1 (by omega) (by omega) (QH_keep hd hw y4 hQ) y2 y3
    refine ⟨h', T', ?_, x2, x3, fun c i hc => by rw [x4 c i hc, y4 c i hc]⟩
    rw [LX12_quotient_109, mops (by omega) hQ.1, if_pos (by omega)]
    refine y1.trans ?_
    show LX12_quotient_109 F 181 (d : Int) u3 u4 k N (wr ((o : Int) + 1)) g = _
    rw [wr_s (by omega)]
    exact x1
end QM
