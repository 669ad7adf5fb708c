/-! laws: one law -/
theorem L2_keep {S ns T : Nat} {hc hm hc' hm' : HF} {lf rt sg mn se : Nat → Nat} (e1 : ∀ c i, (S ≤ c ∧ c ≤ S + 7) → hc' c i = hc c i) (e2 : ∀ c i, 200 ≤ c ∧ c ≤ 202 → hm' c i = hm c i) (hl : L2 S hc hm ns T lf rt sg mn se) : L2 S hc' hm' ns T lf rt sg mn se := by
  obtain ⟨⟨l1, l2, l3⟩, lrow, lks⟩ := hl
  refine ⟨⟨by rw [e1 _ _ (by omega)]; exact l1, by rw [e2 _ _ (by omega)]; exact l2, l3⟩, fun k hk => by rw [e1 _ _ (by omega)]; exact lrow k hk, fun k hk => ?_⟩
  obtain ⟨u1, u2, u3, u4⟩ := lks k hk
  exact ⟨by rw [e1 _ _ (by omega)]; exact u1, by rw [e2 _ _ (by omega)]; exact u2, by rw [e2 _ _ (by omega)]; exact u3, u4⟩
/-- within a law: sames so far, from the state at its beginning on -/
def Mid (t : List Int) (m S nl lo b ns0 T0 : Nat) (lf0 sg0 : Nat → Nat) (hcB hmB hc hm : HF) (a T : Nat) : Prop := ∃ (ns : Nat) (sg mn se pc lf rt : Nat → Nat), RD t m S hc hm a ∧ T2 S nl lo hc hm T sg mn se pc ∧ L2 S hc hm ns T lf rt sg mn se ∧ ns0 + b ≤ ns ∧ T0 ≤ T ∧ (∀ k, k ≤ ns0 → lf k = lf0 k) ∧ (∀ j, j < T0 → sg j = sg0 j) ∧ FsC S nl hcB hc ∧ FsM hmB hm
section TS
variable {F : Nat} {t : List Int} {m S nl lo b ns0 T0 : Nat} {lf0 sg0 : Nat → Nat} {hcB hmB : HF}
theorem mid_same {a T : Nat} {hc hm : HF} (hF : 402 ≤ F) (hT : HT t m) (hS : LCell S) (hn : nl < 6) (hM : Mid t m S nl lo b ns0 T0 lf0 sg0 hcB hmB hc hm a T) :
    (∃ (hc' hm' : HF) (a' T' : Nat), fX10_readSame F 86 hc = some (1, hc') ∧ fX12_same F 181 hm = some (0, hm') ∧ Mid t m S nl lo 1 ns0 T0 lf0 sg0 hcB hmB hc' hm' a' T' ∧ T + 2 ≤ T' ∧ T' ≤ 80)
    ∨ (∃ hc' hm', fX10_readSame F 86 hc = some (0, hc') ∧ fX12_same F 181 hm = some (0, hm') ∧ Er hc' hm' ∧ FsC S nl hcB hc' ∧ FsM hmB hm') := by
  obtain ⟨ns, sg, mn, se, pc, lf, rt, hR, h2, hl, hb, hT0, hlf, hsg, f1, f2⟩ := hM
  rcases same2 (F := F) hF hT hS hn hR h2 hl with ⟨hc', hm', a', T', R, sg', mn', se', pc', x1, x2, x3, x4, x5, x6, x7, x8, x9⟩ | ⟨hc', hm', x1, x2, x3, x4, x5⟩
  · refine Or.inl ⟨hc', hm', a', T', x1, x2, ⟨ns + 1, sg', mn', se', pc', _, _, x3, x4, x5, by omega, by omega, fun k hk => ?_, fun j hj => ?_, FsC_tr f1 x8, FsM_tr f2 x9⟩, x6, x4.1.2.2.2.1⟩
    · rw [upF_ne (by omega)]; exact hlf k hk
    · rw [x7 j (by omega)]; exact hsg j hj
  · exact Or.inr ⟨hc', hm', x1, x2, x3, FsC_tr f1 x4, FsM_tr f2 x5⟩
theorem mid_takes {a T : Nat} {hc hm : HF} {ch : Int} (hF : 402 ≤ F) (hT : HT t m) (hS : LCell S) (hch : ch ≠ -1) (hM : Mid t m S nl lo b ns0 T0 lf0 sg0 hcB hmB hc hm a T) :
    (sn t a = ch ∧ ∃ hm', fX10_takes F 86 ch hc = some (1, stp hc 86 3 ((a + 1 : Nat) : Int)) ∧ fX12_takes F 181 ch hm = some (1, hm') ∧ Mid t m S nl lo b ns0 T0 lf0 sg0 hcB hmB (stp hc 86 3 ((a + 1 : Nat) : Int)) hm' (a + 1) T)
    ∨ (sn t a ≠ ch ∧ fX10_takes F 86 ch hc = some (0, hc) ∧ fX12_takes F 181 ch hm = some (0, hm)) := by
  have hf := LCell_far hS
  obtain ⟨ns, sg, mn, se, pc, lf, rt, hR, h2, hl, hb, hT0, hlf, hsg, f1, f2⟩ := hM
  rcases takes2 (F := F) hF hT hch hR with ⟨q, hm', x1, x2, x3, x4⟩ | ⟨q, x1, x2⟩
  · refine Or.inl ⟨q, hm', x1, x2, ns, sg, mn, se, pc, lf, rt, x3, T2_keep hS (fun c i z => stp_ne (by omega)) (fun c i z => x4 _ _ (by omega)) h2, L2_keep (fun c i z => stp_ne (by omega)) (fun c i z => x4 _ _ (by omega)) hl, hb, hT0, hlf, hsg, FsC_tr f1 (fun c i z1 z2 z3 => stp_ne (by omega)), FsM_tr f2 (fun c i z1 z2 => x4 _ _ (by omega))⟩
  · exact Or.inr ⟨q, x1, x2⟩
/-- a fault within a law -/
theorem mid_bad {a T k : Nat} {hc hm : HF} (hT : HT t m) (hk : 1 ≤ k ∧ k ≤ 4) (hM : Mid t m S nl lo b ns0 T0 lf0 sg0 hcB hmB hc hm a T) : ∃ hc' hm', fX10_failHere F 86 (k : Int) hc = some (0, hc') ∧ fX12_wrong F 181 (k : Int) hm = some (0, hm') ∧ Er hc' hm' ∧ FsC S nl hcB hc' ∧ FsM hmB hm' := by
  obtain ⟨ns, sg, mn, se, pc, lf, rt, hR, h2, hl, hb, hT0, hlf, hsg, f1, f2⟩ := hM
  obtain ⟨hc', hm', y1, y2, y3, y4, y5⟩ := fail2 (F := F) (k := k) hT hk hR
  exact ⟨hc', hm', y1, y2, y3, FsC_tr f1 (fun c i z1 z2 z3 => y4 _ _ (by omega)), FsM_tr f2 (fun c i z1 z2 => y5 _ _ (by omega))⟩
theorem sames_L (hF : 402 ≤ F) (hT : HT t m) (hS : LCell S) (hn : nl < 6) {k69 k61 : HF → RO} {k94 : Int → HF → RO} : ∀ (f i N N' a T : Nat) (v : Int) (hc hm : HF), 80 ≤ T + f → f + 1 ≤ N → f + 2 ≤ N' → 2 * i ≤ T → T ≤ 80 → Mid t m S nl lo 1 ns0 T0 lf0 sg0 hcB hmB hc hm a T →
    (∃ (hc' hm' : HF) (a' T' : Nat), LX10_readLaw_39 F 86 k69 k61 N (i : Int) hc = k69 hc' ∧ LX12_law_76 F 181 k94 N' v hm = k94 (if sn t a = 38 then 1 else v) hm' ∧ Mid t m S nl lo 1 ns0 T0 lf0 sg0 hcB hmB hc' hm' a' T' ∧ (sn t a ≠ 38 → a' = a))
    ∨ (∃ hc' hm', LX10_readLaw_39 F 86 k69 k61 N (i : Int) hc = k61 hc' ∧ LX12_law_76 F 181 k94 N' v hm = k94 1 hm' ∧ Er hc' hm' ∧ FsC S nl hcB hc' ∧ FsM hmB hm') := by
  intro f
  induction f with
  | zero =>
    intro i N N' a T v hc hm h1 hN hN' hi h80 hM
    obtain ⟨N, rfl⟩ : ∃ M, N = M + 1 := ⟨N - 1, by omega⟩
    obtain ⟨N', rfl⟩ : ∃ M, N' = M + 2 := ⟨N' - 2, by omega⟩
    rw [LX10_readLaw_39, LX12_law_76, if_pos (by omega)]
    rcases mid_takes (F := F) (ch := 38) hF hT hS (by decide) hM with ⟨q, hm1, x1, x2, M1⟩ | ⟨q, x1, x2⟩
    · rw [x1, x2, zbd_some, zbd_some, if_neg (show ¬ (1 : Int) = 0 by decide), if_neg (show ¬ (1 : Int) = 0 by decide)]
      rcases mid_same (F := F) hF hT hS hn M1 with ⟨hc2, hm2, a2, T2', y1, y2, M2, y3, y4⟩ | ⟨hc2, hm2, y1, y2, y3, y4, y5⟩
      · omega
      · rw [y1, y2, zbd_some, zbd_some, if_pos (show (0 : Int) = 0 from rfl), LX12_law_76, takes_err (Er_ne y3), zbd_some, if_pos (show (0 : Int) = 0 from rfl)]
        exact Or.inr ⟨hc2, hm2, rfl, rfl, y3, y4, y5⟩
    · rw [x1, x2, zbd_some, zbd_some, if_pos (show (0 : Int) = 0 from rfl), if_pos (show (0 : Int) = 0 from rfl), if_neg q]
      exact Or.inl ⟨hc, hm, a, T, rfl, rfl, hM, fun _ => rfl⟩
  | succ f ih =>
    intro i N N' a T v hc hm h1 hN hN' hi h80 hM
    obtain ⟨N, rfl⟩ : ∃ M, N = M + 1 := ⟨N - 1, by omega⟩
    obtain ⟨N', rfl⟩ : ∃ M, N' = M + 2 := ⟨N' - 2, by omega⟩
    rw [LX10_readLaw_39, LX12_law_76, if_pos (by omega)]
    rcases mid_takes (F := F) (ch := 38) hF hT hS (by decide) hM with ⟨q, hm1, x1, x2, M1⟩ | ⟨q, x1, x2⟩
    · rw [x1, x2, zbd_some, zbd_some, if_neg (show ¬ (1 : Int) = 0 by decide), if_neg (show ¬ (1 : Int) = 0 by decide)]
      rcases mid_same (F := F) hF hT hS hn M1 with ⟨hc2, hm2, a2, T2', y1, y2, M2, y3, y4⟩ | ⟨hc2, hm2, y1, y2, y3, y4, y5⟩
      · rw [y1, y2, zbd_some, zbd_some, if_neg (show ¬ (1 : Int) = 0 by decide), zlet_eq, wr_s (by omega), if_pos q]
        rcases ih (i + 1) N (N' + 1) a2 T2' 1 hc2 hm2 (by omega) (by omega) (by omega) (by omega) y4 M2 with ⟨hc', hm', a', T', z1, z2, z3, z4⟩ | ⟨hc', hm', z1, z2, z3⟩
        · have e1 : (if sn t a2 = 38 then (1 : Int) else 1) = 1 := by by_cases z : sn t a2 = 38 <;> simp [z]
          rw [e1] at z2
          exact Or.inl ⟨hc', hm', a', T', z1, z2, z3, fun z => absurd q z⟩
        · exact Or.inr ⟨hc', hm', z1, z2, z3⟩
      · rw [y1, y2, zbd_some, zbd_some, if_pos (show (0 : Int) = 0 from rfl), LX12_law_76, takes_err (Er_ne y3), zbd_some, if_pos (show (0 : Int) = 0 from rfl)]
        exact Or.inr ⟨hc2, hm2, rfl, rfl, y3, y4, y5⟩
    · rw [x1, x2, zbd_some, zbd_some, if_pos (show (0 : Int) = 0 from rfl), if_pos (show (0 : Int) = 0 from rfl), if_neg q]
      exact Or.inl ⟨hc, hm, a, T, rfl, rfl, hM, fun _ => rfl⟩
end TS
/-- the laws so far -/
def W2 (S : Nat) (hc hm : HF) (nl ns : Nat) (lf lw sg : Nat → Nat) : Prop := (hm 205 4 = (nl : Int) ∧ nl ≤ 6 ∧ lw 0 = 0 ∧ lw nl = ns) ∧ (∀ j, j ≤ nl → hc (S + 1) j = (lw j : Int)) ∧ (∀ j, (j < nl ∨ (j = nl ∧ 1 ≤ nl)) → hm 203 (28 + j) = (lw j : Int) ∧ hm 204 (28 + j) = (lf (lw j) : Int)) ∧ (∀ j, j < nl → lw j < lw (j + 1) ∧ ∃ w : Nat, hc (S + 2) j = (w : Int) ∧ w < 8 ∧ ∀ v, v < 3 → (w.testBit v = true ↔ ∃ t, lf (lw j) ≤ t ∧ t < lf (lw (j + 1)) ∧ sg t = v)) ∧ ∀ j, nl < j → j < 6 → hc (S + 2) j = 0
def G2 (t : List Int) (m S : Nat) (hc hm : HF) (a nl : Nat) : Prop := ∃ (T ns : Nat) (sg mn se pc lf rt lw : Nat → Nat), RD t m S hc hm a ∧ T2 S nl T hc hm T sg mn se pc ∧ L2 S hc hm ns T lf rt sg mn se ∧ W2 S hc hm nl ns lf lw sg
def FlC (S : Nat) (h h' : HF) : Prop := ∀ c i, (c ≠ 86 ∨ (i ≠ 0 ∧ i ≠ 1 ∧ i ≠ 3)) → c ≠ 89 → (c < S ∨ S + 7 < c ∨ (c = S + 1 ∧ i = 0) ∨ (c = S + 3 ∧ i = 0)) → h' c i = h c i
def FlM (h h' : HF) : Prop := ∀ c i, (c ≠ 181 ∨ i < 32 ∨ 36 < i) → (c < 194 ∨ 205 < c ∨ (194 ≤ c ∧ c ≤ 197 ∧ i < 320) ∨ ((c = 199 ∨ c = 202 ∨ c = 205) ∧ i ≠ 4) ∨ ((c = 200 ∨ c = 201) ∧ i < 160) ∨ ((c = 203 ∨ c = 204) ∧ i < 28)) → h' c i = h c i
theorem FlC_tr {S : Nat} {h h' h'' : HF} (a : FlC S h h') (b : FlC S h' h'') : FlC S h h'' := fun c i x1 x2 x3 => (b c i x1 x2 x3).trans (a c i x1 x2 x3)
theorem FlM_tr {h h' h'' : HF} (a : FlM h h') (b : FlM h' h'') : FlM h h'' := fun c i x1 x2 => (b c i x1 x2).trans (a c i x1 x2)
theorem FlC_s {S nl : Nat} {h h' : HF} (a : FsC S nl h h') : FlC S h h' := fun c i x1 x2 x3 => a c i x1 x2 (by omega)
theorem FlM_s {h h' : HF} (a : FsM h h') : FlM h h' := fun c i x1 x2 => a c i x1 (by omega)
/-- what the class and the reference do at a law's end -/
def lawC93 (F : Nat) (h : HF) : RO := zgd h 86 4 fun x4 => zbd (fX4_endLaw F x4 h) fun _ h => zrz 1 h
def lawE (h : HF) : RO := zgf h 181 35 fun x7 => if x7 = 0 then (zrd h (181 + 24) 4 fun x8 => zwr h (181 + 24) 4 (wr (x8 + 1)) fun h => zrd h (181 + 24) 4 fun x9 => zrd h (181 + 21) 4 fun x10 => zwr h (181 + 22) (wr (28 + x9)) x10 fun h => zrd h (181 + 24) 4 fun x11 => zrd h (181 + 18) 4 fun x12 => zwr h (181 + 23) (wr (28 + x11)) x12 fun h => some (0, h)) else some (0, h)
def lawT (F : Nat) (x94_2 : Int) (h : HF) : RO := if x94_2 = 0 then (zbd (fX12_takes F 181 62 h) fun r13 h => if r13 = 0 then lawE h else (zbd (fX12_same F 181 h) fun _ h => lawE h)) else (zbd (fX12_must F 181 62 h) fun _ h => zbd (fX12_same F 181 h) fun _ h => lawE h)
def lawC69 (F : Nat) (h : HF) : RO := zbd (fX10_takes F 86 62 h) fun r6 h => if r6 = 0 then (zbd (fX10_failHere F 86 1 h) fun r7 h => zrz r7 h) else (zbd (fX10_readSame F 86 h) fun r8 h => if r8 = 0 then zrz 0 h else lawC93 F h)
theorem lawE_err {h : HF} (e : ¬ h 181 35 = 0) : lawE h = some (0, h) := by unfold lawE; rw [zgf_eq, if_neg e]
theorem lawT_err {F : Nat} {v : Int} {h : HF} (e : ¬ h 181 35 = 0) : lawT F v h = some (0, h) := by
  unfold lawT
  by_cases q : v = 0
  · rw [if_pos q, takes_err e, zbd_some, if_pos rfl, lawE_err e]
  · rw [if_neg q, must_err e, zbd_some, same_err e, zbd_some, lawE_err e]
section TS
variable {F : Nat} {t : List Int} {m S nl : Nat}
/-- the law ends without a fault -/
theorem law_end {a T ns0 T0 : Nat} {sg0 lf0 lw : Nat → Nat} {hcA hmA hmB hc hm : HF} (hS : LCell S) (hn : nl < 6) (hW : W2 S hcA hmA nl ns0 lf0 lw sg0) (hl0 : lf0 ns0 = T0) (hle : ∀ j, j ≤ ns0 → lf0 j ≤ T0) (hB1 : hmB 203 (28 + nl) = (ns0 : Int)) (hB2 : hmB 204 (28 + nl) = (T0 : Int)) (hB : ∀ c i, c ≠ 203 → c ≠ 204 → hmB c i = hmA c i) (hB3 : ∀ c i, (c = 203 ∨ c = 204) → i ≠ 28 + nl → hmB c i = hmA c i) (hM : Mid t m S nl T0 1 ns0 T0 lf0 sg0 hcA hmB hc hm a T) :
    ∃ hc' hm', lawC93 F hc = some (1, hc') ∧ lawE hm = some (0, hm') ∧ G2 t m S hc' hm' a (nl + 1) ∧ FlC S hcA hc' ∧ FlM hmA hm' := by
  have hf := LCell_far hS
  obtain ⟨k1, -⟩ := LCell_kl hS
  obtain ⟨ns, sg, mn, se, pc, lf, rt, hR, h2, hl, hb, hT0, hlf, hsg, f1, f2⟩ := hM
  obtain ⟨⟨w1, w2, w3, w4⟩, w5, w6, w7, w8⟩ := hW
  have rr : ∀ (K : Nat) (h : HF) (f : Int → RO), K = 18 ∨ K = 21 ∨ K = 24 → zrd h (181 + K) 4 f = f (h (181 + K) 4) := fun K h f z => by
    rcases z with rfl | rfl | rfl
    · exact rdm18 (i := 4) (by omega)
    · exact rdm21 (i := 4) (by omega)
    · exact rdm24 (i := 4) (by omega)
  have ww : ∀ (h : HF) (v : Int) (f : HF → RO), zwr h (181 + 24) 4 v f = f (stp h 205 4 v) := fun h v f => wtm24 (i := 4) (by omega)
  have hns : ns ≤ 40 := by have := hl.1.2.2.1; have := h2.1.2.2.2.1; omega
  have e0 : hc S 0 = (nl : Int) := h2.1.2.1
  have e1 : hc S 1 = (ns : Int) := hl.1.1
  have m5 : hm 205 4 = (nl : Int) := by rw [f2 _ _ (by omega) (by omega), hB _ _ (by omega) (by omega)]; exact w1
  have m2 : hm 202 4 = (ns : Int) := hl.1.2.1
  have m9 : hm 199 4 = (T : Int) := h2.1.2.2.1
  have lwle : ∀ j, j ≤ nl → lw j ≤ ns0 := by
    have st : ∀ d j, j + d = nl → lw j ≤ ns0 := by
      intro d
      induction d with
      | zero => intro j hj; rw [show j = nl by omega, w4]; exact Nat.le_refl _
      | succ d ih =>
        intro j hj
        have := (w7 j (by omega)).1
        have := ih (j + 1) (by omega)
        omega
    exact fun j hj => st (nl - j) j (by omega)
  refine ⟨stp (stp hc S 0 ((nl + 1 : Nat) : Int)) (S + 1) (nl + 1) (ns : Int), stp (stp (stp hm 205 4 ((nl + 1 : Nat) : Int)) 203 (28 + (nl + 1)) (ns : Int)) 204 (28 + (nl + 1)) (T : Int), ?_, ?_, ⟨T, ns, sg, mn, se, pc, lf, rt, upF lw (nl + 1) ns, ?_, ?_, ?_, ?_⟩, ?_, ?_⟩
  · unfold lawC93 fX4_endLaw
    rw [zgd_at hR.1.2.1, zgf_eq, e0, wr_s (by omega), zpf_eq, zgf_eq, stp_eq, zgf_eq, stp_ne (by omega), e1, zwr_ok (a := S + 1) ⟨by omega, by omega⟩, Int.toNat_natCast, zbd_some]
    rfl
  · unfold lawE
    rw [zgf_eq, if_pos hR.2.2.2.2.2.2, rr 24 _ _ (by omega), ww, rr 24 _ _ (by omega), rr 21 _ _ (by omega)]
    rw [show stp hm 205 4 (wr (hm (181 + 24) 4 + 1)) (181 + 24) 4 = ((nl + 1 : Nat) : Int) by rw [show (181 + 24 : Nat) = 205 from rfl, stp_eq, m5, wr_s (by omega)]]
    rw [show stp hm 205 4 (wr (hm (181 + 24) 4 + 1)) (181 + 21) 4 = (ns : Int) by rw [stp_ne (by omega)]; exact m2]
    rw [show hm (181 + 24) 4 = (nl : Int) from m5, wr_s (by omega), wr_id (x := 28 + ((nl + 1 : Nat) : Int)) ⟨by omega, by omega⟩, show 28 + ((nl + 1 : Nat) : Int) = ((28 + (nl + 1) : Nat) : Int) by omega, wtm22 (by omega), rr 24 _ _ (by omega), rr 18 _ _ (by omega), show stp (stp hm 205 4 ((nl + 1 : Nat) : Int)) 203 (28 + (nl + 1)) (ns : Int) (181 + 24) 4 = ((nl + 1 : Nat) : Int) by rw [stp_ne (by omega)]; exact stp_eq _ _ _ _, show stp (stp hm 205 4 ((nl + 1 : Nat) : Int)) 203 (28 + (nl + 1)) (ns : Int) (181 + 18) 4 = (T : Int) by rw [stp_ne (by omega), stp_ne (by omega)]; exact m9, wr_id (x := 28 + ((nl + 1 : Nat) : Int)) ⟨by omega, by omega⟩, show 28 + ((nl + 1 : Nat) : Int) = ((28 + (nl + 1) : Nat) : Int) by omega, wtm23 (by omega)]
  · exact RD_m (fun c i z => by rw [stp_ne (by omega), stp_ne (by omega), stp_ne (by omega)]) (RD_c (fun c i z => by rw [stp_ne (by omega), stp_ne (by omega)]) hR)
  · obtain ⟨⟨p1, p2, p3, p4, p5⟩, prow, pv⟩ := h2
    refine ⟨⟨?_, ?_, ?_, p4, Nat.le_refl _⟩, fun j hj => ?_, fun q => ⟨0, ?_, by omega, fun v hv => ?_⟩⟩
    · rw [stp_ne (by omega), stp_ne (by omega)]; exact p1
    · rw [stp_ne (by omega), stp_eq]
    · rw [stp_ne (by omega), stp_ne (by omega), stp_ne (by omega)]; exact p3
    · obtain ⟨⟨r1, r2, r3, r4⟩, ⟨r5, r6, r7, r8, r9⟩, r10⟩ := prow j hj
      have ck : ∀ c, (c = S + 5 ∨ c = S + 6 ∨ c = S + 7 ∨ c = 89) → stp (stp hc S 0 ((nl + 1 : Nat) : Int)) (S + 1) (nl + 1) (ns : Int) c j = hc c j := fun c z => by rw [stp_ne (by omega), stp_ne (by omega)]
      have mk : ∀ c i, (194 ≤ c ∧ c ≤ 198) → stp (stp (stp hm 205 4 ((nl + 1 : Nat) : Int)) 203 (28 + (nl + 1)) (ns : Int)) 204 (28 + (nl + 1)) (T : Int) c i = hm c i := fun c i z => by rw [stp_ne (by omega), stp_ne (by omega), stp_ne (by omega)]
      exact ⟨⟨by rw [ck _ (by omega)]; exact r1, by rw [ck _ (by omega)]; exact r2, fun z => by rw [ck _ (by omega)]; exact r3 z, by rw [ck _ (by omega)]; exact r4⟩, ⟨by rw [mk _ _ (by omega)]; exact r5, by rw [mk _ _ (by omega)]; exact r6, fun z => by rw [mk _ _ (by omega)]; exact r7 z, fun z => by rw [mk _ _ (by omega)]; exact r8 z, by rw [mk _ _ (by omega)]; exact r9⟩, r10⟩
    · rw [stp_ne (by omega), stp_ne (by omega), f1 _ _ (by omega) (by omega) (by omega)]
      exact w8 (nl + 1) (by omega) q
    · rw [Nat.zero_testBit]
      exact ⟨fun z => absurd z (by decide), fun ⟨j, z1, z2, _⟩ => absurd z1 (by omega)⟩
  · obtain ⟨⟨l1, l2, l3⟩, lrow, lks⟩ := hl
    refine ⟨⟨by rw [stp_ne (by omega), stp_ne (by omega)]; exact l1, by rw [stp_ne (by omega), stp_ne (by omega), stp_ne (by omega)]; exact l2, l3⟩, fun k hk => by rw [stp_ne (by omega), stp_ne (by omega)]; exact lrow k hk, fun k hk => ?_⟩
    obtain ⟨u1, u2, u3, u4⟩ := lks k hk
    exact ⟨by rw [stp_ne (by omega), stp_ne (by omega)]; exact u1, by rw [stp_ne (by omega), stp_ne (by omega), stp_ne (by omega)]; exact u2, by rw [stp_ne (by omega), stp_ne (by omega), stp_ne (by omega)]; exact u3, u4⟩
  · have lf_lw : ∀ j, j ≤ nl → lf (lw j) = lf0 (lw j) := fun j hj => hlf _ (lwle j hj)
    refine ⟨⟨by rw [stp_ne (by omega), stp_ne (by omega), stp_eq], by omega, by rw [upF_ne (by omega)]; exact w3, upF_eq⟩, fun j hj => ?_, fun j hj => ?_, fun j hj => ?_, fun j h1 h6 => ?_⟩
    · by_cases q : j = nl + 1
      · subst q; rw [stp_eq, upF_eq]
      · rw [stp_ne (by omega), stp_ne (by omega), f1 _ _ (by omega) (by omega) (by omega), upF_ne q]
        exact w5 j (by omega)
    · by_cases q : j = nl + 1
      · subst q
        rw [upF_eq, hl.1.2.2.2.2]
        exact ⟨by rw [stp_ne (by omega), stp_eq], stp_eq _ _ _ _⟩
      · rw [upF_ne q]
        have hj' : j ≤ nl := by omega
        rw [stp_ne (by omega), stp_ne (by omega), stp_ne (by omega), stp_ne (by omega), stp_ne (by omega), stp_ne (by omega), f2 _ _ (by omega) (by omega), f2 _ _ (by omega) (by omega), lf_lw j hj']
        by_cases z : j = nl
        · subst z
          rw [hB1, hB2, w4, hl0]
          exact ⟨rfl, rfl⟩
        · rw [hB3 _ _ (by omega) (by omega), hB3 _ _ (by omega) (by omega)]
          exact w6 j (by omega)
    · by_cases q : j = nl
      · subst q
        rw [upF_ne (by omega), upF_eq, w4]
        refine ⟨by omega, ?_⟩
        obtain ⟨w, v1, v2, v3⟩ := h2.2.2 hn
        refine ⟨w, by rw [stp_ne (by omega), stp_ne (by omega)]; exact v1, v2, fun v hv => ?_⟩
        rw [v3 v hv, hlf ns0 (Nat.le_refl _), hl0, hl.1.2.2.2.2]
      · obtain ⟨y1, w, y2, y3, y4⟩ := w7 j (by omega)
        rw [upF_ne (by omega), upF_ne (by omega)]
        refine ⟨y1, w, by rw [stp_ne (by omega), stp_ne (by omega), f1 _ _ (by omega) (by omega) (by omega)]; exact y2, y3, fun v hv => ?_⟩
        rw [y4 v hv, lf_lw j (by omega), lf_lw (j + 1) (by omega)]
        have le1 := hle (lw (j + 1)) (lwle (j + 1) (by omega))
        constructor
        · rintro ⟨u, u1, u2, u3⟩
          exact ⟨u, u1, u2, by rw [hsg u (by omega)]; exact u3⟩
        · rintro ⟨u, u1, u2, u3⟩
          exact ⟨u, u1, u2, by rw [← hsg u (by omega)]; exact u3⟩
    · rw [stp_ne (by omega), stp_ne (by omega), f1 _ _ (by omega) (by omega) (by omega)]
      exact w8 j (by omega) h6
  · exact FlC_tr (FlC_s f1) (fun c i z1 z2 z3 => by rw [stp_ne (by omega), stp_ne (by omega)])
  · exact FlM_tr (fun c i z1 z2 => by
      by_cases q : c = 203 ∨ c = 204
      · exact hB3 c i q (by omega)
      · exact hB c i (by omega) (by omega)) (FlM_tr (FlM_s f2) (fun c i z1 z2 => by rw [stp_ne (by omega), stp_ne (by omega), stp_ne (by omega)]))
end TS
