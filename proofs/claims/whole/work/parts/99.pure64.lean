/-! laws: terms -/
theorem zgf_eq {h : HF} {a k : Nat} {f : Int → RO} : zgf h a k f = f (h a k) := id rfl
theorem zpf_eq {h : HF} {a k : Nat} {v : Int} {f : HF → RO} : zpf h a k v f = f (stp h a k v) := id rfl
def upF (f : Nat → Nat) (T v : Nat) (j : Nat) : Nat := if j = T then v else f j
theorem upF_eq {f : Nat → Nat} {T v : Nat} : upF f T v T = v := if_pos rfl
theorem upF_ne {f : Nat → Nat} {T v j : Nat} (h : j ≠ T) : upF f T v j = f j := if_neg h
/-- a term at t, up to e, of at most so many levels -/
def TT (sg mn se : Nat → Nat) : Nat → Nat → Nat → Prop
  | 0, _, _ => False
  | D + 1, t, e => (mn t = 0 ∧ e = t + 1) ∨ (3 ≤ sg t ∧ mn t = 1 ∧ TT sg mn se D (t + 1) e) ∨ (3 ≤ sg t ∧ mn t = 2 ∧ TT sg mn se D (t + 1) (se t) ∧ TT sg mn se D (se t) e)
theorem TT_lt {sg mn se : Nat → Nat} : ∀ (D t e : Nat), TT sg mn se D t e → t < e
  | 0, _, _, h => h.elim
  | D + 1, t, e, h => by
    rcases h with ⟨_, h⟩ | ⟨_, _, h⟩ | ⟨_, _, h1, h2⟩
    · omega
    · have := TT_lt D _ _ h; omega
    · have := TT_lt D _ _ h1
      have := TT_lt D _ _ h2
      omega
theorem TT_congr {sg mn se sg' mn' se' : Nat → Nat} : ∀ (D t e : Nat), (∀ j, t ≤ j → j < e → sg' j = sg j ∧ mn' j = mn j ∧ (mn j = 2 → se' j = se j)) → TT sg mn se D t e → TT sg' mn' se' D t e
  | 0, _, _, _, h => h.elim
  | D + 1, t, e, hc, h => by
    have lt := TT_lt (D + 1) t e h
    obtain ⟨a1, a2, a3⟩ := hc t (Nat.le_refl _) lt
    rcases h with ⟨h1, h⟩ | ⟨h0, h1, h⟩ | ⟨h0, h1, h, h2⟩
    · exact Or.inl ⟨by rw [a2]; exact h1, h⟩
    · exact Or.inr (Or.inl ⟨by rw [a1]; exact h0, by rw [a2]; exact h1, TT_congr D _ _ (fun j x y => hc j (by omega) y) h⟩)
    · have l1 := TT_lt D _ _ h
      have l2 := TT_lt D _ _ h2
      refine Or.inr (Or.inr ⟨by rw [a1]; exact h0, by rw [a2]; exact h1, ?_, ?_⟩)
      · rw [a3 h1]; exact TT_congr D _ _ (fun j x y => hc j (by omega) (by omega)) h
      · rw [a3 h1]; exact TT_congr D _ _ (fun j x y => hc j (by omega) y) h2
/-- the variables of the law nl, which began at term lo -/
def VB (S nl lo T : Nat) (sg : Nat → Nat) (h : HF) : Prop := nl < 6 → ∃ w : Nat, h (S + 2) nl = (w : Int) ∧ w < 8 ∧ ∀ v, v < 3 → (w.testBit v = true ↔ ∃ t, lo ≤ t ∧ t < T ∧ sg t = v)
theorem VB_keep {S nl lo T : Nat} {sg : Nat → Nat} {h h' : HF} (e : h' (S + 2) nl = h (S + 2) nl) (hV : VB S nl lo T sg h) : VB S nl lo T sg h' := fun q => by
  obtain ⟨w, b1, b2, b3⟩ := hV q
  exact ⟨w, by rw [e]; exact b1, b2, b3⟩
/-- the terms that are read so far, on both sides; the variables of the law that began at term lo -/
def T2 (S nl lo : Nat) (hc hm : HF) (T : Nat) (sg mn se pc : Nat → Nat) : Prop :=
  (hc S 2 = (T : Int) ∧ hc S 0 = (nl : Int) ∧ hm 199 4 = (T : Int) ∧ T ≤ 80 ∧ lo ≤ T) ∧
  (∀ t, t < T → (hc (S + 5) t = (sg t : Int) ∧ hc (S + 6) t = (mn t : Int) ∧ (mn t = 2 → hc (S + 7) t = (se t : Int)) ∧ hc 89 t = (pc t : Int)) ∧ (hm 194 (320 + t) = (sg t : Int) ∧ hm 195 (320 + t) = (mn t : Int) ∧ (1 ≤ mn t → hm 196 (320 + t) = ((t + 1 : Nat) : Int)) ∧ (mn t = 2 → hm 197 (320 + t) = (se t : Int)) ∧ hm 198 t = (pc t : Int)) ∧ (sg t < 7 ∧ (sg t < 3 → mn t = 0) ∧ mn t ≤ 2 ∧ pc t ≤ 400)) ∧
  VB S nl lo T sg hc
/-- what reading a term leaves as it was -/
def FtC (S nl T : Nat) (h h' : HF) : Prop := ∀ c i, (c ≠ 86 ∨ (i ≠ 0 ∧ i ≠ 1 ∧ i ≠ 3)) → (c ≠ S ∨ i ≠ 2) → (c ≠ S + 2 ∨ i ≠ nl) → ((c ≠ S + 5 ∧ c ≠ S + 6 ∧ c ≠ S + 7 ∧ c ≠ 89) ∨ i < T) → h' c i = h c i
def FtM (T : Nat) (h h' : HF) : Prop := ∀ c i, (c ≠ 181 ∨ i < 32 ∨ 36 < i) → ((c ≠ 194 ∧ c ≠ 195 ∧ c ≠ 196 ∧ c ≠ 197) ∨ i < 320 + T) → (c ≠ 198 ∨ i < T) → (c ≠ 199 ∨ i ≠ 4) → h' c i = h c i
theorem FtC_tr {S nl T T' : Nat} {h h' h'' : HF} (hT : T ≤ T') (a : FtC S nl T h h') (b : FtC S nl T' h' h'') : FtC S nl T h h'' := fun c i x1 x2 x3 x4 => (b c i x1 x2 x3 (by omega)).trans (a c i x1 x2 x3 x4)
theorem FtM_tr {T T' : Nat} {h h' h'' : HF} (hT : T ≤ T') (a : FtM T h h') (b : FtM T' h' h'') : FtM T h h'' := fun c i x1 x2 x3 x4 => (b c i x1 (by omega) (by omega) x4).trans (a c i x1 x2 x3 x4)
/-- the class has one term more -/
theorem addTerm_eq {F S nl T s : Nat} {h : HF} (hS : LCell S) (hT : T < 80) (hn : nl < 6) (h2 : h S 2 = (T : Int)) (h0 : h S 0 = (nl : Int)) : ∃ h1, fX4_addTerm F S (s : Int) h = some ((T : Int), h1) ∧ h1 S 2 = ((T + 1 : Nat) : Int) ∧ h1 (S + 5) T = (s : Int) ∧ h1 (S + 6) T = 0 ∧ h1 (S + 2) nl = (if s < 3 then wor (h (S + 2) nl) (wshl 1 (s : Int)) else h (S + 2) nl) ∧ ∀ c i, (c ≠ S ∨ i ≠ 2) → (c ≠ S + 5 ∨ i ≠ T) → (c ≠ S + 6 ∨ i ≠ T) → (c ≠ S + 2 ∨ i ≠ nl) → h1 c i = h c i := by
  obtain ⟨-, k2, -, -, k5, k6, -⟩ := LCell_kl hS
  unfold fX4_addTerm
  simp only [zgf, zpf, zjn_eq]
  rw [h2, zwr_ok (a := S + 5) ⟨by omega, by omega⟩, zwr_ok (a := S + 6) ⟨by omega, by omega⟩, Int.toNat_natCast]
  generalize hg : stp (stp h (S + 5) T (s : Int)) (S + 6) T 0 = g
  have gk : ∀ c i, (c ≠ S + 5 ∨ i ≠ T) → (c ≠ S + 6 ∨ i ≠ T) → g c i = h c i := fun c i z w => by rw [← hg, stp_ne w, stp_ne z]
  have g5 : g (S + 5) T = (s : Int) := by rw [← hg, stp_ne (by omega), stp_eq]
  have g6 : g (S + 6) T = 0 := by rw [← hg, stp_eq]
  by_cases q : s < 3
  · rw [if_pos (by omega), gk _ _ (by omega) (by omega), h0, zrd_ok (a := S + 2) ⟨by omega, by omega⟩, zwr_ok (a := S + 2) ⟨by omega, by omega⟩, Int.toNat_natCast, gk _ _ (by omega) (by omega)]
    refine ⟨_, rfl, ?_, ?_, ?_, ?_, fun c i z1 z2 z3 z4 => ?_⟩
    · rw [stp_eq, stp_ne (by omega), gk _ _ (by omega) (by omega), h2, wr_s (by omega)]
    · rw [stp_ne (by omega), stp_ne (by omega)]; exact g5
    · rw [stp_ne (by omega), stp_ne (by omega)]; exact g6
    · rw [stp_ne (by omega), stp_eq, if_pos q]
    · rw [stp_ne z1, stp_ne z4, gk c i z2 z3]
  · rw [if_neg (by omega)]
    refine ⟨_, rfl, ?_, ?_, ?_, ?_, fun c i z1 z2 z3 z4 => ?_⟩
    · rw [stp_eq, gk _ _ (by omega) (by omega), h2, wr_s (by omega)]
    · rw [stp_ne (by omega)]; exact g5
    · rw [stp_ne (by omega)]; exact g6
    · rw [stp_ne (by omega), gk _ _ (by omega) (by omega), if_neg q]
    · rw [stp_ne z1, gk c i z2 z3]
theorem tsg_N {x : Int} (h : ¬ tsg x = -1) : ∃ s : Nat, tsg x = (s : Int) ∧ s < 7 ∧ ((120 ≤ x ∧ x ≤ 122) ↔ s < 3) ∧ (s < 3 → x = (s : Int) + 120) ∧ (¬ s < 3 → x = (s : Int) + 94) := by
  unfold tsg at h ⊢
  by_cases q1 : 120 ≤ x ∧ x ≤ 122
  · rw [if_pos q1]
    exact ⟨(x - 120).toNat, by omega, by omega, by omega, by omega, by omega⟩
  · rw [if_neg q1] at h ⊢
    by_cases q2 : 97 ≤ x ∧ x ≤ 100
    · rw [if_pos q2] at h ⊢
      exact ⟨(x - 97 + 3).toNat, by omega, by omega, by omega, by omega, by omega⟩
    · rw [if_neg q2] at h
      exact absurd rfl h
theorem bit3 {w s : Nat} (hw : w < 8) (hs : s < 3) : wor (w : Int) (wshl 1 (s : Int)) = ((w ||| 2 ^ s : Nat) : Int) ∧ (w ||| 2 ^ s) < 8 ∧ ∀ v, v < 3 → ((w ||| 2 ^ s).testBit v = true ↔ (w.testBit v = true ∨ v = s)) := by
  have h8 : 2 ^ s < 8 := by
    have := Nat.pow_lt_pow_right (a := 2) (by decide) hs
    omega
  refine ⟨by rw [wshl_1 (by omega), wor_N (by omega) (by omega)], Nat.or_lt_two_pow (n := 3) hw h8, fun v _ => ?_⟩
  rw [Nat.testBit_or, Bool.or_eq_true, Nat.testBit_two_pow, decide_eq_true_eq]
  refine or_congr Iff.rfl ⟨fun e => e.symm, fun e => e.symm⟩
/-- a term begins, on both sides -/
theorem add2 {F : Nat} {t : List Int} {m S nl lo a T s : Nat} {sg mn se pc : Nat → Nat} {hc hm : HF} (hF : 402 ≤ F) (hT : HT t m) (hS : LCell S) (hn : nl < 6) (hl : T < 80) (hs : tsg (sn t a) = (s : Int)) (hR : RD t m S hc hm a) (h2 : T2 S nl lo hc hm T sg mn se pc) :
    ∃ hc3 hm5, RD t m S hc3 hm5 (a + 1) ∧ T2 S nl lo hc3 hm5 (T + 1) (upF sg T s) (upF mn T 0) se (upF pc T (pl t a)) ∧ FtC S nl T hc hc3 ∧ FtM T hm hm5 ∧ s < 7 ∧
    (∀ K : Int → HF → RO, (zbd (fX4_addTerm F S (s : Int) hc) fun r11 h => zgf h 86 3 fun x12 => zrd h (86 + 2) x12 fun x13 => zwr h (86 + 3) r11 x13 fun h => zgf h 86 3 fun x14 => zpf h 86 3 (wr (x14 + 1)) fun h => K r11 h) = K (T : Int) hc3) ∧
    (∀ K : Int → Int → HF → RO, (zrd hm (181 + 18) 4 fun x7 => zlet (wr (320 + x7)) fun x8 => zrd hm (181 + 18) 4 fun x9 => zgf hm 181 34 fun x10 => zwr hm (181 + 17) x9 x10 fun h => zrd h (181 + 18) 4 fun x11 => zwr h (181 + 18) 4 (wr (x11 + 1)) fun h => zgf h 181 33 fun x12 => zbd (fX12_isVariable F x12 h) fun r13 h => zjn (fun (x139_2 : Int) (x139_3 : Int) (y139_0 : Int) (y139_1 : Int) (y139_2 : Nat) (h : HF) => (zwr h y139_2 y139_1 y139_0 fun h => zwr h (181 + 14) x139_2 0 fun h => zbd (fX12_nextSign F 181 h) fun _ h => K x139_2 x139_3 h)) fun j139 => if r13 = 0 then (zgf h 181 33 fun x20 => j139 x8 r13 (wr ((wr (3 + x20)) - 97)) x8 (181 + 13) h) else (zgf h 181 33 fun x21 => j139 x8 r13 (wr (x21 - 120)) x8 (181 + 13) h)) = K ((320 + T : Nat) : Int) (if s < 3 then 1 else 0) hm5) := by
  have hf := LCell_far hS
  obtain ⟨s', es, s7, sv, sx, sy⟩ := tsg_N (x := sn t a) (by rw [hs]; omega)
  obtain rfl : s' = s := by omega
  obtain ⟨⟨b1, b2, b3, b4, b5⟩, brow, bv⟩ := h2
  obtain ⟨w, bw, bw8, bwv⟩ := bv hn
  obtain ⟨hc1, x1, x2, x3, x4, x5, x6⟩ := addTerm_eq (F := F) (s := s') hS hl hn b1 b2
  have hR0 := hR
  obtain ⟨⟨c1, c2, c3, c4, c5⟩, m1, m2, m3, m4, m5, m6⟩ := hR
  have hm4 := hT.2.1
  have ham : a < m := sn_lt hT c4 (fun e => by rw [e] at hs; have : tsg (-1) = -1 := by decide
                                               omega)
  generalize hg4 : stp (stp (stp (stp hm 198 T (pl t a : Int)) 199 4 ((T + 1 : Nat) : Int)) 194 (320 + T) (s' : Int)) 195 (320 + T) 0 = g4
  have g4k : ∀ c i, (c ≠ 198 ∨ i ≠ T) → (c ≠ 199 ∨ i ≠ 4) → ((c ≠ 194 ∧ c ≠ 195) ∨ i ≠ 320 + T) → g4 c i = hm c i := fun c i z1 z2 z3 => by rw [← hg4, stp_ne (by omega), stp_ne (by omega), stp_ne (by omega), stp_ne (by omega)]
  have R4 : RD t m S (stp hc1 89 T (pl t a : Int)) g4 a := RD_m (fun c i z => g4k c i (by omega) (by omega) (by omega)) (RD_c (fun c i z => by rw [stp_ne (by omega), x6 c i (by omega) (by omega) (by omega) (by omega)]) hR0)
  obtain ⟨hm5, y1, y2, y3⟩ := adv (F := F) hF hT ham R4
  have hp := pl_le hT c4
  refine ⟨stp (stp hc1 89 T (pl t a : Int)) 86 3 ((a + 1 : Nat) : Int), hm5, y2, ⟨⟨?_, ?_, ?_, by omega, by omega⟩, fun j hj => ?_, ?_⟩, ?_, ?_, s7, ?_, ?_⟩
  · rw [stp_ne (by omega), stp_ne (by omega)]; exact x2
  · rw [stp_ne (by omega), stp_ne (by omega), x6 _ _ (by omega) (by omega) (by omega) (by omega)]; exact b2
  · rw [y3 _ _ (by omega), ← hg4, stp_ne (by omega), stp_ne (by omega), stp_eq]
  · by_cases e : j = T
    · subst e
      rw [upF_eq, upF_eq, upF_eq]
      refine ⟨⟨?_, ?_, fun z => absurd z (by decide), ?_⟩, ⟨?_, ?_, fun z => absurd z (by decide), fun z => absurd z (by decide), ?_⟩, s7, fun _ => rfl, by omega, hp⟩
      · rw [stp_ne (by omega), stp_ne (by omega)]; exact x3
      · rw [stp_ne (by omega), stp_ne (by omega)]; exact x4
      · rw [stp_ne (by omega), stp_eq]
      · rw [y3 _ _ (by omega), ← hg4, stp_ne (by omega), stp_eq]
      · rw [y3 _ _ (by omega), ← hg4, stp_eq]; rfl
      · rw [y3 _ _ (by omega), ← hg4, stp_ne (by omega), stp_ne (by omega), stp_ne (by omega), stp_eq]
    · have hj' : j < T := by omega
      obtain ⟨⟨r1, r2, r3, r4⟩, ⟨r5, r6, r7, r8, r9⟩, r10⟩ := brow j hj'
      have ck : ∀ c, (c = S + 5 ∨ c = S + 6 ∨ c = S + 7 ∨ c = 89) → stp (stp hc1 89 T (pl t a : Int)) 86 3 ((a + 1 : Nat) : Int) c j = hc c j := fun c z => by rw [stp_ne (by omega), stp_ne (by omega), x6 c j (by omega) (by omega) (by omega) (by omega)]
      have mk : ∀ c, (c = 194 ∨ c = 195 ∨ c = 196 ∨ c = 197) → hm5 c (320 + j) = hm c (320 + j) := fun c z => by rw [y3 _ _ (by omega), g4k _ _ (by omega) (by omega) (by omega)]
      rw [upF_ne e, upF_ne e, upF_ne e]
      refine ⟨⟨?_, ?_, fun z => ?_, ?_⟩, ⟨?_, ?_, fun z => ?_, fun z => ?_, ?_⟩, r10⟩
      · rw [ck _ (by omega)]; exact r1
      · rw [ck _ (by omega)]; exact r2
      · rw [ck _ (by omega)]; exact r3 z
      · rw [ck _ (by omega)]; exact r4
      · rw [mk _ (by omega)]; exact r5
      · rw [mk _ (by omega)]; exact r6
      · rw [mk _ (by omega)]; exact r7 z
      · rw [mk _ (by omega)]; exact r8 z
      · rw [y3 _ _ (by omega), g4k _ _ (by omega) (by omega) (by omega)]; exact r9
  · intro _
    have ew : stp (stp hc1 89 T (pl t a : Int)) 86 3 ((a + 1 : Nat) : Int) (S + 2) nl = if s' < 3 then wor (w : Int) (wshl 1 (s' : Int)) else (w : Int) := by rw [stp_ne (by omega), stp_ne (by omega), x5, bw]
    rw [ew]
    by_cases q : s' < 3
    · obtain ⟨o1, o2, o3⟩ := bit3 bw8 q
      rw [if_pos q]
      refine ⟨_, o1, o2, fun v hv => ?_⟩
      rw [o3 v hv, bwv v hv]
      constructor
      · rintro (⟨j, j1, j2, j3⟩ | e)
        · exact ⟨j, j1, by omega, by rw [upF_ne (by omega)]; exact j3⟩
        · exact ⟨T, b5, by omega, by rw [upF_eq]; exact e.symm⟩
      · rintro ⟨j, j1, j2, j3⟩
        by_cases e : j = T
        · subst e; rw [upF_eq] at j3; exact Or.inr j3.symm
        · rw [upF_ne e] at j3; exact Or.inl ⟨j, j1, by omega, j3⟩
    · rw [if_neg q]
      refine ⟨w, rfl, bw8, fun v hv => ?_⟩
      rw [bwv v hv]
      constructor
      · rintro ⟨j, j1, j2, j3⟩
        exact ⟨j, j1, by omega, by rw [upF_ne (by omega)]; exact j3⟩
      · rintro ⟨j, j1, j2, j3⟩
        by_cases e : j = T
        · subst e; rw [upF_eq] at j3; omega
        · rw [upF_ne e] at j3; exact ⟨j, j1, by omega, j3⟩
  · intro c i z1 z2 z3 z4
    rw [stp_ne (by omega), stp_ne (by omega), x6 c i z2 (by omega) (by omega) z3]
  · intro c i z1 z2 z3 z4
    rw [y3 _ _ (by omega), g4k _ _ (by omega) z4 (by omega)]
  · intro K
    have ca : hc1 86 3 = (a : Int) := by rw [x6 _ _ (by omega) (by omega) (by omega) (by omega)]; exact c3
    rw [x1, zbd_some]
    simp only [zgf, zpf]
    rw [ca, rd88 (by omega), wt89 (by omega), stp_ne (by omega), ca, wr_s (by omega), x6 _ _ (by omega) (by omega) (by omega) (by omega), (c1 a c4).2]
  · intro K
    have r4 : ∀ (h : HF) (f : Int → RO), zrd h (181 + 18) 4 f = f (h 199 4) := fun h f => rdm18 (i := 4) (by omega)
    have w4 : ∀ (h : HF) (v : Int) (f : HF → RO), zwr h (181 + 18) 4 v f = f (stp h 199 4 v) := fun h v f => wtm18 (i := 4) (by omega)
    rw [r4, zlet_eq, r4, b3, zgf_eq, wtm17 (by omega), r4, w4, stp_ne (show (199 : Nat) ≠ 198 ∨ (4 : Nat) ≠ T by omega), b3, m4, wr_s (by omega), wr_id (x := 320 + (T : Int)) ⟨by omega, by omega⟩, zgf_eq]
    have e33 : stp (stp hm 198 T (pl t a : Int)) 199 4 ((T + 1 : Nat) : Int) 181 33 = sn t a := by rw [stp_ne (by omega), stp_ne (by omega)]; exact m3
    rw [e33, isVar_eq, zbd_some, zjn_eq]
    have e320 : (320 + (T : Int)) = ((320 + T : Nat) : Int) := by omega
    rw [e320]
    by_cases q : s' < 3
    · rw [bl_pos (sv.mpr q), if_neg (by decide), if_pos q]
      rw [zgf_eq, e33]
      show zwr _ (181 + 13) ((320 + T : Nat) : Int) (wr (sn t a - 120)) _ = _
      rw [sx q, wr_id ⟨by omega, by omega⟩, show (s' : Int) + 120 - 120 = (s' : Int) by omega, wtm13 (by omega), wtm14 (by omega), hg4, y1, zbd_some]
    · rw [bl_neg (fun z => q (sv.mp z)), if_pos rfl, if_neg q]
      rw [zgf_eq, e33]
      show zwr _ (181 + 13) ((320 + T : Nat) : Int) (wr (wr (3 + sn t a) - 97)) _ = _
      rw [sy q, wr_id (x := 3 + ((s' : Int) + 94)) ⟨by omega, by omega⟩, wr_id ⟨by omega, by omega⟩, show 3 + ((s' : Int) + 94) - 97 = (s' : Int) by omega, wtm13 (by omega), wtm14 (by omega), hg4, y1, zbd_some]
