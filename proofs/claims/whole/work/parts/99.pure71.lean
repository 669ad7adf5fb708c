/-! law lists: what they hold, on both sides -/
def LVar (h : HF) (L nl : Nat) (sg lf lw : Nat → Nat) : Prop := ∀ j, j < nl → ∃ w : Nat, h (L + 2) j = (w : Int) ∧ w < 8 ∧ ∀ v, v < 3 → (w.testBit v = true ↔ ∃ t, lf (lw j) ≤ t ∧ t < lf (lw (j + 1)) ∧ sg t = v)
def LLC (h : HF) (L nl ns T : Nat) (sg mn se lf rt lw : Nat → Nat) : Prop := (h L 0 = (nl : Int) ∧ h L 2 = (T : Int)) ∧ (∀ t, t < T → h (L + 5) t = (sg t : Int) ∧ h (L + 6) t = (mn t : Int) ∧ (mn t = 2 → h (L + 7) t = (se t : Int))) ∧ (∀ k, k ≤ ns → h (L + 3) k = (lf k : Int)) ∧ (∀ k, k < ns → h (L + 4) k = (rt k : Int)) ∧ (∀ j, j ≤ nl → h (L + 1) j = (lw j : Int)) ∧ LVar h L nl sg lf lw
def LLM (h : HF) (i nl ns T : Nat) (sg mn se lf rt lw : Nat → Nat) : Prop := (h 205 i = (nl : Int) ∧ h 199 i = (T : Int)) ∧ (∀ t, t < T → h 194 (80 * i + t) = (sg t : Int) ∧ h 195 (80 * i + t) = (mn t : Int) ∧ (1 ≤ mn t → h 196 (80 * i + t) = ((t + 1 : Nat) : Int)) ∧ (mn t = 2 → h 197 (80 * i + t) = (se t : Int))) ∧ (∀ k, k < ns → h 200 (40 * i + k) = (lf k : Int) ∧ h 201 (40 * i + k) = (rt k : Int)) ∧ ∀ j, j ≤ nl → h 203 (7 * i + j) = (lw j : Int) ∧ h 204 (7 * i + j) = (lf (lw j) : Int)
def LLP (nl ns T : Nat) (sg mn se lf rt lw : Nat → Nat) : Prop := (1 ≤ nl ∧ nl ≤ 6 ∧ T ≤ 80 ∧ ns ≤ 40) ∧ (∀ t, t < T → sg t < 7 ∧ (sg t < 3 → mn t = 0) ∧ mn t ≤ 2) ∧ (lf 0 = 0 ∧ lf ns = T ∧ lw 0 = 0 ∧ lw nl = ns) ∧ (∀ k, k < ns → TT sg mn se 8 (lf k) (rt k) ∧ TT sg mn se 8 (rt k) (lf (k + 1))) ∧ ∀ j, j < nl → lw j < lw (j + 1)
def LR (h : HF) (L i : Nat) : Prop := h L 0 = h 205 i ∧ (h 205 i = 0 ∨ ∃ (nl ns T : Nat) (sg mn se lf rt lw : Nat → Nat), LLC h L nl ns T sg mn se lf rt lw ∧ LLM h i nl ns T sg mn se lf rt lw ∧ LLP nl ns T sg mn se lf rt lw)
def I6d (h : HF) : Prop := (∃ S : Nat, h 0 6 = (S : Int) ∧ LCell S ∧ ∀ i, i < 4 → h 77 i ≠ (S : Int)) ∧ (∀ i, i < 4 → ∃ L : Nat, h 77 i = (L : Int) ∧ LCell L ∧ LR h L i) ∧ (∀ i j, i < 4 → j < 4 → i ≠ j → h 77 i ≠ h 77 j) ∧ ∀ L, LCell L → h (L + 1) 0 = 0 ∧ h (L + 3) 0 = 0
theorem LLC_keep {h h' : HF} {L nl ns T : Nat} {sg mn se lf rt lw : Nat → Nat} (e : ∀ c i, L ≤ c ∧ c ≤ L + 7 → h' c i = h c i) (hl : LLC h L nl ns T sg mn se lf rt lw) : LLC h' L nl ns T sg mn se lf rt lw := by
  obtain ⟨⟨a1, a2⟩, a3, a4, a5, a6, a7⟩ := hl
  refine ⟨⟨by rw [e _ _ (by omega)]; exact a1, by rw [e _ _ (by omega)]; exact a2⟩, fun t ht => ?_, fun k hk => by rw [e _ _ (by omega)]; exact a4 k hk, fun k hk => by rw [e _ _ (by omega)]; exact a5 k hk, fun j hj => by rw [e _ _ (by omega)]; exact a6 j hj, fun j hj => ?_⟩
  · obtain ⟨b1, b2, b3⟩ := a3 t ht
    exact ⟨by rw [e _ _ (by omega)]; exact b1, by rw [e _ _ (by omega)]; exact b2, fun z => by rw [e _ _ (by omega)]; exact b3 z⟩
  · obtain ⟨w, b1, b2⟩ := a7 j hj
    exact ⟨w, by rw [e _ _ (by omega)]; exact b1, b2⟩
/-- list i of the reference in another heap, perhaps from list k -/
theorem LLM_move {h h' : HF} {i k nl ns T : Nat} {sg mn se lf rt lw : Nat → Nat} (hT : T ≤ 80) (hs : ns ≤ 40) (hn : nl ≤ 6) (e1 : ∀ c, (c = 199 ∨ c = 205) → h' c k = h c i) (e2 : ∀ c t, (194 ≤ c ∧ c ≤ 197) → t < 80 → h' c (80 * k + t) = h c (80 * i + t)) (e3 : ∀ c t, (c = 200 ∨ c = 201) → t < 40 → h' c (40 * k + t) = h c (40 * i + t)) (e4 : ∀ c t, (c = 203 ∨ c = 204) → t < 7 → h' c (7 * k + t) = h c (7 * i + t)) (hl : LLM h i nl ns T sg mn se lf rt lw) : LLM h' k nl ns T sg mn se lf rt lw := by
  obtain ⟨⟨a1, a2⟩, a3, a4, a5⟩ := hl
  refine ⟨⟨by rw [e1 _ (by omega)]; exact a1, by rw [e1 _ (by omega)]; exact a2⟩, fun t ht => ?_, fun k hk => by rw [e3 _ _ (by omega) (by omega), e3 _ _ (by omega) (by omega)]; exact a4 k hk, fun j hj => by rw [e4 _ _ (by omega) (by omega), e4 _ _ (by omega) (by omega)]; exact a5 j hj⟩
  obtain ⟨b1, b2, b3, b4⟩ := a3 t ht
  exact ⟨by rw [e2 _ _ (by omega) (by omega)]; exact b1, by rw [e2 _ _ (by omega) (by omega)]; exact b2, fun z => by rw [e2 _ _ (by omega) (by omega)]; exact b3 z, fun z => by rw [e2 _ _ (by omega) (by omega)]; exact b4 z⟩
theorem LR_keep {h h' : HF} {L i : Nat} (hi : i < 4) (e : ∀ c i, L ≤ c ∧ c ≤ L + 7 → h' c i = h c i) (e1 : ∀ c, (c = 199 ∨ c = 205) → h' c i = h c i) (e2 : ∀ c t, (194 ≤ c ∧ c ≤ 197) → t < 80 → h' c (80 * i + t) = h c (80 * i + t)) (e3 : ∀ c t, (c = 200 ∨ c = 201) → t < 40 → h' c (40 * i + t) = h c (40 * i + t)) (e4 : ∀ c t, (c = 203 ∨ c = 204) → t < 7 → h' c (7 * i + t) = h c (7 * i + t)) (hl : LR h L i) : LR h' L i := by
  obtain ⟨a1, a2⟩ := hl
  refine ⟨by rw [e _ _ (by omega), e1 _ (by omega)]; exact a1, ?_⟩
  rcases a2 with a2 | ⟨nl, ns, T, sg, mn, se, lf, rt, lw, b1, b2, b3⟩
  · exact Or.inl (by rw [e1 _ (by omega)]; exact a2)
  · exact Or.inr ⟨nl, ns, T, sg, mn, se, lf, rt, lw, LLC_keep e b1, LLM_move b3.1.2.2.1 b3.1.2.2.2 b3.1.2.1 e1 e2 e3 e4 b2, b3⟩
theorem S6_mem {c k : Nat} (h : (c = 0 ∧ k = 6) ∨ (77 ≤ c ∧ c ≤ 85) ∨ (149 ≤ c ∧ c ≤ 180) ∨ (194 ≤ c ∧ c ≤ 197 ∧ k < 320) ∨ ((c = 199 ∨ c = 202 ∨ c = 205) ∧ k < 4) ∨ ((c = 200 ∨ c = 201) ∧ k < 160) ∨ ((c = 203 ∨ c = 204) ∧ k < 28)) : S6 c k = true := by
  simp only [S6, Bool.or_eq_true, Bool.and_eq_true, decide_eq_true_eq]
  omega
theorem I6d_congr {h h' : HF} (e : ∀ c k, S6 c k = true → h' c k = h c k) (hI : I6d h) : I6d h' := by
  have e' : ∀ c k, ((c = 0 ∧ k = 6) ∨ (77 ≤ c ∧ c ≤ 85) ∨ (149 ≤ c ∧ c ≤ 180) ∨ (194 ≤ c ∧ c ≤ 197 ∧ k < 320) ∨ ((c = 199 ∨ c = 202 ∨ c = 205) ∧ k < 4) ∨ ((c = 200 ∨ c = 201) ∧ k < 160) ∨ ((c = 203 ∨ c = 204) ∧ k < 28)) → h' c k = h c k := fun c k q => e c k (S6_mem q)
  obtain ⟨⟨S, s1, s2, s3⟩, a1, a2, a3⟩ := hI
  refine ⟨⟨S, by rw [e' _ _ (by omega)]; exact s1, s2, fun i hi => by rw [e' _ _ (by omega)]; exact s3 i hi⟩, fun i hi => ?_, fun i j hi hj q => by rw [e' _ _ (by omega), e' _ _ (by omega)]; exact a2 i j hi hj q, fun L hL => ?_⟩
  · obtain ⟨L, b1, b2, b3⟩ := a1 i hi
    have hf := LCell_far b2
    exact ⟨L, by rw [e' _ _ (by omega)]; exact b1, b2, LR_keep hi (fun c j z => e' c j (by omega)) (fun c z => e' c _ (by omega)) (fun c t z w => e' c _ (by omega)) (fun c t z w => e' c _ (by omega)) (fun c t z w => e' c _ (by omega)) b3⟩
  · have hf := LCell_far hL
    rw [e' _ _ (by omega), e' _ _ (by omega)]
    exact a3 L hL
theorem I6d_get {h : HF} (hI : I6d (msk S6 h)) : I6d h := I6d_congr (fun c k q => (msk_on q).symm) hI
theorem I6d_put {h : HF} (hI : I6d h) : I6d (msk S6 h) := I6d_congr (fun c k q => msk_on q) hI
/-! reading a text of laws, on both sides -/
/-- the reference's laws from its first sign on, up to the comparison of arguments -/
def rlM (F : Nat) (u2 : Int) (K : HF → RO) (h : HF) : RO := zbd (fX12_nextSign F 181 h) fun _ h => zbd (fX12_law F 181 h) fun _ h => LX12_laws_68 F 181 u2 (fun h => zgf h 181 35 fun x5 => if x5 = 0 then (zgf h 181 33 fun x25 => if x25 = (-1) then (zbd (fX12_agree F 181 h) fun _ h => K h) else (zbd (fX12_wrong F 181 1 h) fun _ h => zbd (fX12_agree F 181 h) fun _ h => K h)) else (zbd (fX12_agree F 181 h) fun _ h => K h)) F h
theorem rl2 {F : Nat} {t : List Int} {S : Nat} {u2 : Int} {K : HF → RO} {h hm : HF} (hF : 402 ≤ F) (hS : LCell S) (hl : t.length ≤ 400) (ht : TP h 1 1 2 t) (hz : h (S + 1) 0 = 0 ∧ h (S + 3) 0 = 0) (m1 : hm 181 31 = (t.length : Int)) (m2 : ∀ i, i < t.length → hm 182 i = t.getD i 0) (m3 : hm 181 32 = 0) (m4 : hm 181 35 = 0) (m5 : hm 199 4 = 0) (m6 : hm 202 4 = 0) (m7 : hm 205 4 = 0) :
    ∃ hc' hm', fX10_readLaws F 86 1 S h = some (0, hc') ∧ rlM F u2 K hm = K hm' ∧
    ((hc' 86 0 = 0 ∧ hm' 181 35 = 0 ∧ ∃ (nl ns T : Nat) (sg mn se lf rt lw : Nat → Nat), LLC hc' S nl ns T sg mn se lf rt lw ∧ LLM hm' 4 nl ns T sg mn se lf rt lw ∧ LLP nl ns T sg mn se lf rt lw ∧ hm' 202 4 = (ns : Int)) ∨ Er hc' hm') ∧
    hc' 1 1 = 0 ∧ (∀ c i, (c ≠ 86 ∨ 4 < i) → (c < 87 ∨ 90 < c) → (c < S ∨ S + 7 < c ∨ (c = S + 1 ∧ i = 0) ∨ (c = S + 3 ∧ i = 0)) → (c ≠ 1 ∨ i ≠ 1) → hc' c i = h c i) ∧ FlM hm hm' := by
  have hf := LCell_far hS
  obtain ⟨k1, k2, k3, k4, k5, k6, k7⟩ := LCell_kl hS
  -- the class up to its loop
  generalize hh1 : stp (stp (stp (stp h 86 2 ((1 : Nat) : Int)) 86 3 0) 86 0 0) 86 1 0 = h1
  have q1 : ∀ c i, c ≠ 86 → h1 c i = h c i := fun c i z => by rw [← hh1, stp_ne (by omega), stp_ne (by omega), stp_ne (by omega), stp_ne (by omega)]
  have q12 : h1 86 2 = ((1 : Nat) : Int) := by rw [← hh1, stp_ne (by omega), stp_ne (by omega), stp_ne (by omega), stp_eq]
  have q13 : h1 86 3 = 0 := by rw [← hh1, stp_ne (by omega), stp_ne (by omega), stp_eq]
  have q10 : h1 86 0 = 0 := by rw [← hh1, stp_ne (by omega), stp_eq]
  have q15 : ∀ i, 4 < i → h1 86 i = h 86 i := fun i z => by rw [← hh1, stp_ne (by omega), stp_ne (by omega), stp_ne (by omega), stp_ne (by omega)]
  obtain ⟨h2, m, x1, x2, x3, x4, x5, x6⟩ := gather_s (F := F) (t := t) hF hl q12 (TP_keep ht (q1 _ _ (by omega)) (fun i => q1 _ _ (by omega)))
  have hT : HT t m := ⟨hl, x2, x3, x4⟩
  generalize hh3 : fil (stp (stp (stp (stp h2 86 4 (S : Int)) S 0 0) S 1 0) S 2 0) (S + 2) 0 6 0 = h3
  have q3 : ∀ c i, (c ≠ 86 ∨ i ≠ 4) → (c ≠ S ∨ 2 < i) → (c ≠ S + 2 ∨ 6 ≤ i) → h3 c i = h2 c i := fun c i z1 z2 z3 => by rw [← hh3, fil_off (by omega), stp_ne (by omega), stp_ne (by omega), stp_ne (by omega), stp_ne (by omega)]
  have q34 : h3 86 4 = (S : Int) := by rw [← hh3, fil_off (by omega), stp_ne (by omega), stp_ne (by omega), stp_ne (by omega), stp_eq]
  have q30 : h3 S 0 = 0 := by rw [← hh3, fil_off (by omega), stp_ne (by omega), stp_ne (by omega), stp_eq]
  have q31 : h3 S 1 = 0 := by rw [← hh3, fil_off (by omega), stp_ne (by omega), stp_eq]
  have q32 : h3 S 2 = 0 := by rw [← hh3, fil_off (by omega), stp_eq]
  have q3f : ∀ i, i < 6 → h3 (S + 2) i = 0 := fun i hi => by rw [← hh3, fil_in ⟨by omega, by omega⟩]
  have eC : ∀ y : RO, LX10_readLaws_29 F 86 1 (fun (x76_3 : Int) (h : HF) => if x76_3 = 0 then some (0, stp h 1 1 0) else zgf h 86 3 fun x6 => zrd h (86 + 1) x6 fun x7 => if x7 = (-1) then (if x76_3 = 0 then some (0, stp h 1 1 0) else (zbd (fX10_compareArguments F 86 h) fun _ h => some (0, stp h 1 1 0))) else (zbd (fX10_failHere F 86 1 h) fun r8 h => if r8 = 0 then some (0, stp h 1 1 0) else (zbd (fX10_compareArguments F 86 h) fun _ h => some (0, stp h 1 1 0)))) F 1 1 0 h3 = y → fX10_readLaws F 86 1 S h = y := fun y e => by
    unfold fX10_readLaws fX10_begin fX4_clear
    rw [zpf_eq, zpf_eq, zpf_eq, zpf_eq, hh1, zbd_some, x1, zbd_some, zpf_eq, zgd_at (v := S) (stp_eq _ _ _ _), zpf_eq, zpf_eq, zpf_eq, fill0_eq k2 (by omega) (by omega), zbd_some, zbd_some, hh3, zjn_eq]
    refine Eq.trans ?_ e
    congr 1
    funext v g
    by_cases q : v = 0
    · rw [if_pos q, zjn_eq, if_pos q]
      show (if v = 0 then _ else _) = _
      rw [if_pos q]; rfl
    · rw [if_neg q, zjn_eq, if_neg q]
      rfl
  -- the reference up to its first law
  obtain ⟨g1, y1, y2, y3, y4, y5⟩ := next_eq (F := F) (p := 0) hF hl (by omega) m3 m1 m2
  have G0 : G2 t m S h3 g1 0 0 := by
    refine ⟨0, 0, fun _ => 0, fun _ => 0, fun _ => 0, fun _ => 0, fun _ => 0, fun _ => 0, fun _ => 0, ⟨⟨fun j hj => ?_, q34, ?_, by omega, ?_⟩, ?_, fun i hi => ?_, y2, y3, y4, ?_⟩, ⟨⟨q32, q30, ?_, by omega, by omega⟩, fun j hj => absurd hj (by omega), fun _ => ⟨0, q3f 0 (by omega), by omega, fun v hv => ?_⟩⟩, ⟨⟨q31, ?_, by omega, rfl, rfl⟩, fun k hk => ?_, fun k hk => absurd hk (by omega)⟩, ⟨⟨?_, by omega, rfl, rfl⟩, fun j hj => ?_, fun j hj => absurd hj (by omega), fun j hj => absurd hj (by omega), fun j h1 h6 => q3f j h6⟩⟩
    · rw [q3 _ _ (by omega) (by omega) (by omega), q3 _ _ (by omega) (by omega) (by omega)]; exact x5 j hj
    · rw [q3 _ _ (by omega) (by omega) (by omega), x6 _ _ (by omega) (by omega)]; exact q13
    · rw [q3 _ _ (by omega) (by omega) (by omega), x6 _ _ (by omega) (by omega)]; exact q10
    · rw [y5 _ _ (by omega)]; exact m1
    · rw [y5 _ _ (by omega)]; exact m2 i hi
    · rw [y5 _ _ (by omega)]; exact m4
    · rw [y5 _ _ (by omega)]; exact m5
    · rw [Nat.zero_testBit]
      exact ⟨fun z => absurd z (by decide), fun ⟨j, z1, z2, _⟩ => absurd z2 (by omega)⟩
    · rw [y5 _ _ (by omega)]; exact m6
    · rw [show k = 0 by omega, q3 _ _ (by omega) (by omega) (by omega), x6 _ _ (by omega) (by omega), q1 _ _ (by omega)]; exact hz.2
    · rw [y5 _ _ (by omega)]; exact m7
    · rw [show j = 0 by omega, q3 _ _ (by omega) (by omega) (by omega), x6 _ _ (by omega) (by omega), q1 _ _ (by omega)]; exact hz.1
  have fr : ∀ g : HF, FlC S h3 g → ∀ c i, (c ≠ 86 ∨ 4 < i) → (c < 87 ∨ 90 < c) → (c < S ∨ S + 7 < c ∨ (c = S + 1 ∧ i = 0) ∨ (c = S + 3 ∧ i = 0)) → g c i = h c i := fun g hg c i z1 z2 z3 => by
    rw [hg c i (by omega) (by omega) z3, q3 c i (by omega) (by omega) (by omega), x6 _ _ (by omega) (by omega)]
    by_cases q : c = 86
    · subst q; exact q15 i (by omega)
    · exact q1 c i q
  have FM1 : FlM hm g1 := fun c i z1 z2 => y5 _ _ (by omega)
  have eM : rlM F u2 K hm = zbd (fX12_law F 181 g1) fun _ h => LX12_laws_68 F 181 u2 (fun h => zgf h 181 35 fun x5 => if x5 = 0 then (zgf h 181 33 fun x25 => if x25 = (-1) then (zbd (fX12_agree F 181 h) fun _ h => K h) else (zbd (fX12_wrong F 181 1 h) fun _ h => zbd (fX12_agree F 181 h) fun _ h => K h)) else (zbd (fX12_agree F 181 h) fun _ h => K h)) F h := by
    unfold rlM
    rw [y1, zbd_some]
  -- by the answer of all laws
  rcases laws_L (F := F) hF hT hS (u1 := 1) (u2 := u2) (k76 := fun (x76_3 : Int) (h : HF) => if x76_3 = 0 then some (0, stp h 1 1 0) else zgf h 86 3 fun x6 => zrd h (86 + 1) x6 fun x7 => if x7 = (-1) then (if x76_3 = 0 then some (0, stp h 1 1 0) else (zbd (fX10_compareArguments F 86 h) fun _ h => some (0, stp h 1 1 0))) else (zbd (fX10_failHere F 86 1 h) fun r8 h => if r8 = 0 then some (0, stp h 1 1 0) else (zbd (fX10_compareArguments F 86 h) fun _ h => some (0, stp h 1 1 0)))) (k84 := fun h => zgf h 181 35 fun x5 => if x5 = 0 then (zgf h 181 33 fun x25 => if x25 = (-1) then (zbd (fX12_agree F 181 h) fun _ h => K h) else (zbd (fX12_wrong F 181 1 h) fun _ h => zbd (fX12_agree F 181 h) fun _ h => K h)) else (zbd (fX12_agree F 181 h) fun _ h => K h)) 6 0 F F 0 h3 g1 (by omega) (by omega) (by omega) G0 with ⟨hc', hm', a', nl, v1, v2, v3, v4, v5, v6⟩ | ⟨hc', hm', v1, v2, v3, v5, v6⟩
  · -- no fault so far
    rw [if_neg (show ¬ (1 : Int) = 0 by decide)] at v1
    obtain ⟨T, ns, sg, mn, se, pc, lf, rt, lw, hR, h2', hl2, hW⟩ := v4
    have hm400 := hT.2.1
    rw [zgf_eq, hR.1.2.2.1, rd87 (by have := hR.1.2.2.2.1; omega), (hR.1.1 a' hR.1.2.2.2.1).1, if_neg (show ¬ (1 : Int) = 0 by decide)] at v1
    rw [zgf_eq, if_pos hR.2.2.2.2.2.2, zgf_eq, hR.2.2.2.1] at v2
    by_cases qe : sn t a' = -1
    · rw [if_pos qe] at v1 v2
      rcases agree2 (F := F) hF hS hR h2' with ⟨c2, z1, z2, z3⟩ | ⟨c2, d2, z1, z2, z3, z4, z5⟩
      · rw [z1, zbd_some] at v1
        rw [z2, zbd_some] at v2
        refine ⟨stp c2 1 1 0, hm', eC _ v1, eM.trans v2, Or.inl ⟨?_, hR.2.2.2.2.2.2, nl, ns, T, sg, mn, se, lf, rt, lw, ?_, ?_, ?_, hl2.1.2.1⟩, stp_eq _ _ _ _, fun c i u1 u2 u3 u4 => ?_, FlM_tr FM1 v6⟩
        · rw [stp_ne (by omega), z3 _ _ (by omega)]; exact hR.1.2.2.2.2
        · have ck : ∀ c i, S ≤ c ∧ c ≤ S + 7 → stp c2 1 1 0 c i = hc' c i := fun c i z => by rw [stp_ne (by omega), z3 _ _ (by omega)]
          refine LLC_keep ck ⟨⟨h2'.1.2.1, h2'.1.1⟩, fun j hj => ?_, hl2.2.1, fun k hk => (hl2.2.2 k hk).1, hW.2.1, fun j hj => (hW.2.2.2.1 j hj).2⟩
          obtain ⟨⟨r1, r2, r3, r4⟩, -⟩ := h2'.2.1 j hj
          exact ⟨r1, r2, r3⟩
        · refine ⟨⟨hW.1.1, h2'.1.2.2.1⟩, fun j hj => ?_, fun k hk => ⟨(hl2.2.2 k hk).2.1, (hl2.2.2 k hk).2.2.1⟩, fun j hj => hW.2.2.1 j (by omega)⟩
          obtain ⟨-, ⟨r5, r6, r7, r8, r9⟩, -⟩ := h2'.2.1 j hj
          exact ⟨r5, r6, r7, r8⟩
        · have := hl2.1.2.2.1
          have := h2'.1.2.2.2.1
          refine ⟨⟨v3, hW.1.2.1, h2'.1.2.2.2.1, by omega⟩, fun j hj => ?_, ⟨hl2.1.2.2.2.1, hl2.1.2.2.2.2, hW.1.2.2.1, hW.1.2.2.2⟩, fun k hk => ⟨(hl2.2.2 k hk).2.2.2.1, (hl2.2.2 k hk).2.2.2.2⟩, fun j hj => (hW.2.2.2.1 j hj).1⟩
          obtain ⟨-, -, r10, r11, r12, r13⟩ := h2'.2.1 j hj
          exact ⟨r10, r11, r12⟩
        · rw [stp_ne u4, z3 _ _ (by omega)]
          exact fr hc' v5 c i u1 u2 u3
      · rw [z1, zbd_some] at v1
        rw [z2, zbd_some] at v2
        refine ⟨stp c2 1 1 0, d2, eC _ v1, eM.trans v2, Or.inr (Er_keep (stp_ne (by omega)) (stp_ne (by omega)) rfl rfl z3), stp_eq _ _ _ _, fun c i u1 u2 u3 u4 => ?_, FlM_tr FM1 (FlM_tr v6 (fun c i u1 u2 => z5 _ _ (by omega)))⟩
        rw [stp_ne u4, z4 _ _ (by omega) (by omega)]
        exact fr hc' v5 c i u1 u2 u3
    · rw [if_neg qe] at v1 v2
      obtain ⟨c2, d2, z1, z2, z3, z4, z5⟩ := fail2 (F := F) (k := 1) hT (by omega) hR
      have z1' : fX10_failHere F 86 1 hc' = some (0, c2) := z1
      have z2' : fX12_wrong F 181 1 hm' = some (0, d2) := z2
      rw [z1', zbd_some, if_pos rfl] at v1
      rw [z2', zbd_some, agree_err (by omega) (Er_ne z3), zbd_some] at v2
      refine ⟨stp c2 1 1 0, d2, eC _ v1, eM.trans v2, Or.inr (Er_keep (stp_ne (by omega)) (stp_ne (by omega)) rfl rfl z3), stp_eq _ _ _ _, fun c i u1 u2 u3 u4 => ?_, FlM_tr FM1 (FlM_tr v6 (fun c i u1 u2 => z5 _ _ (by omega)))⟩
      rw [stp_ne u4, z4 _ _ (by omega)]
      exact fr hc' v5 c i u1 u2 u3
  · rw [if_pos rfl] at v1
    have ne := Er_ne v3
    rw [zgf_eq, if_neg ne, agree_err (by omega) ne, zbd_some] at v2
    refine ⟨stp hc' 1 1 0, hm', eC _ v1, eM.trans v2, Or.inr (Er_keep (stp_ne (by omega)) (stp_ne (by omega)) rfl rfl v3), stp_eq _ _ _ _, fun c i u1 u2 u3 u4 => ?_, FlM_tr FM1 v6⟩
    rw [stp_ne u4]
    exact fr hc' v5 c i u1 u2 u3
