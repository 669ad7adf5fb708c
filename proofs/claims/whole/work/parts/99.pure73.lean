/-! laws: the call -/
/-- the reference's last part: the list becomes what was read -/
def lwK (F : Nat) (a1 : Int) (h : HF) : RO := zgf h 181 35 fun x7 => zpf h 181 5 x7 fun h => zgf h 181 35 fun x8 => if x8 = 0 then (zrd h (181 + 18) 4 fun x9 => zwr h (181 + 18) a1 x9 fun h => zrd h (181 + 21) 4 fun x10 => zwr h (181 + 21) a1 x10 fun h => zrd h (181 + 24) 4 fun x11 => zwr h (181 + 24) a1 x11 fun h => LX12_laws_169 F 181 a1 (fun h => LX12_laws_267 F 181 a1 (fun h => LX12_laws_323 F 181 a1 (fun h => zrd h (181 + 24) a1 fun x12 => some (x12, h)) F 0 h) F 0 h) F 0 h) else (zgf h 181 36 fun x24 => some (wr ((-100) - x24), h))
/-- how the reference's laws begins -/
def lwI (h : HF) : HF := stp (stp (stp (stp (stp (stp (stp (stp h 181 0 0) 181 31 (h 181 2)) 181 2 0) 181 32 0) 181 35 0) 199 4 0) 202 4 0) 205 4 0
theorem lwI_k {h : HF} {c i : Nat} (z : c ≠ 181 ∨ (i ≠ 0 ∧ i ≠ 2 ∧ i ≠ 31 ∧ i ≠ 32 ∧ i ≠ 35)) (w : (c ≠ 199 ∧ c ≠ 202 ∧ c ≠ 205) ∨ i ≠ 4) : lwI h c i = h c i := by
  unfold lwI
  rw [stp_ne (by omega), stp_ne (by omega), stp_ne (by omega), stp_ne (by omega), stp_ne (by omega), stp_ne (by omega), stp_ne (by omega), stp_ne (by omega)]
theorem lawsM_eq {F i : Nat} {h : HF} (hi : i < 4) : fX12_laws F 181 (i : Int) h = rlM F (i : Int) (lwK F (i : Int)) (lwI h) := by
  have w8 : ∀ (h : HF) (v : Int) (f : HF → RO), zwr h (181 + 18) 4 v f = f (stp h 199 4 v) := fun h v f => wtm18 (i := 4) (by omega)
  have w1 : ∀ (h : HF) (v : Int) (f : HF → RO), zwr h (181 + 21) 4 v f = f (stp h 202 4 v) := fun h v f => wtm21 (i := 4) (by omega)
  have w4 : ∀ (h : HF) (v : Int) (f : HF → RO), zwr h (181 + 24) 4 v f = f (stp h 205 4 v) := fun h v f => wtm24 (i := 4) (by omega)
  unfold fX12_laws
  rw [zpf_eq, zgf_eq, zpf_eq, zpf_eq, isList_m, zbd_some, bl_pos (by omega), if_neg (by decide), zpf_eq, zpf_eq, w8, w1, w4, stp_ne (show (181 : Nat) ≠ 181 ∨ (2 : Nat) ≠ 0 by decide)]
  rfl
theorem lwK_ok {F i nl ns T : Nat} {sg mn se lf rt lw : Nat → Nat} {h : HF} (hF : 402 ≤ F) (hi : i < 4) (h5 : h 181 35 = 0) (h2 : h 202 4 = (ns : Int)) (hM : LLM h 4 nl ns T sg mn se lf rt lw) (hP : LLP nl ns T sg mn se lf rt lw) : ∃ h', lwK F (i : Int) h = some ((nl : Int), h') ∧ LLM h' i nl ns T sg mn se lf rt lw ∧ h' 181 5 = 0 ∧ ∀ c j, (c ≠ 181 ∨ j ≠ 5) → (c < 194 ∨ 205 < c ∨ c = 198 ∨ (194 ≤ c ∧ c ≤ 197 ∧ (j < 80 * i ∨ 80 * i + 80 ≤ j)) ∨ ((c = 199 ∨ c = 202 ∨ c = 205) ∧ j ≠ i) ∨ ((c = 200 ∨ c = 201) ∧ (j < 40 * i ∨ 40 * i + 40 ≤ j)) ∨ ((c = 203 ∨ c = 204) ∧ (j < 7 * i ∨ 7 * i + 7 ≤ j))) → h' c j = h c j := by
  have r8 : ∀ (h : HF) (f : Int → RO), zrd h (181 + 18) 4 f = f (h 199 4) := fun h f => rdm18 (i := 4) (by omega)
  have r1 : ∀ (h : HF) (f : Int → RO), zrd h (181 + 21) 4 f = f (h 202 4) := fun h f => rdm21 (i := 4) (by omega)
  have r4 : ∀ (h : HF) (f : Int → RO), zrd h (181 + 24) 4 f = f (h 205 4) := fun h f => rdm24 (i := 4) (by omega)
  unfold lwK
  rw [zgf_eq, h5, zpf_eq, zgf_eq, stp_ne (by omega), h5, if_pos rfl, r8, wtm18 (by omega), r1, wtm21 (by omega), r4, wtm24 (by omega)]
  rw [show stp h 181 5 0 199 4 = (T : Int) by rw [stp_ne (by omega)]; exact hM.1.2]
  rw [show stp (stp h 181 5 0) 199 i (T : Int) 202 4 = (ns : Int) by rw [stp_ne (by omega), stp_ne (by omega)]; exact h2]
  rw [show stp (stp (stp h 181 5 0) 199 i (T : Int)) 202 i (ns : Int) 205 4 = (nl : Int) by rw [stp_ne (by omega), stp_ne (by omega), stp_ne (by omega)]; exact hM.1.1]
  generalize hg : stp (stp (stp (stp h 181 5 0) 199 i (T : Int)) 202 i (ns : Int)) 205 i (nl : Int) = g
  have gk : ∀ c j, (c ≠ 181 ∨ j ≠ 5) → ((c ≠ 199 ∧ c ≠ 202 ∧ c ≠ 205) ∨ j ≠ i) → g c j = h c j := fun c j z w => by rw [← hg, stp_ne (by omega), stp_ne (by omega), stp_ne (by omega), stp_ne (by omega)]
  have g5 : g 205 i = (nl : Int) := by rw [← hg, stp_eq]
  have g9 : g 199 i = (T : Int) := by rw [← hg, stp_ne (by omega), stp_ne (by omega), stp_eq]
  have g0 : g 181 5 = 0 := by rw [← hg, stp_ne (by omega), stp_ne (by omega), stp_ne (by omega), stp_eq]
  obtain ⟨a, a1, a2, a3⟩ := cp169 (F := F) (i := i) (k := fun h => LX12_laws_267 F 181 (i : Int) (fun h => LX12_laws_323 F 181 (i : Int) (fun h => zrd h (181 + 24) (i : Int) fun x12 => some (x12, h)) F 0 h) F 0 h) hi 80 0 F g (by omega) (by omega)
  obtain ⟨b, b1, b2, b3⟩ := cp267 (F := F) (i := i) (k := fun h => LX12_laws_323 F 181 (i : Int) (fun h => zrd h (181 + 24) (i : Int) fun x12 => some (x12, h)) F 0 h) hi 40 0 F a (by omega) (by omega)
  obtain ⟨d, d1, d2, d3⟩ := cp323 (F := F) (i := i) (k := fun h => zrd h (181 + 24) (i : Int) fun x12 => some (x12, h)) hi 7 0 F b (by omega) (by omega)
  have dk : ∀ c j, ((c < 194 ∨ 205 < c ∨ c = 198) ∨ (c = 199 ∨ c = 202 ∨ c = 205)) → d c j = g c j := fun c j z => by rw [d3 c j (by omega), b3 c j (by omega), a3 c j (by omega)]
  refine ⟨d, ?_, ?_, by rw [dk _ _ (by omega)]; exact g0, fun c j z w => ?_⟩
  · refine a1.trans (b1.trans (d1.trans ?_))
    show zrd d (181 + 24) (i : Int) _ = _
    rw [rdm24 (by omega), dk _ _ (by omega), g5]
  · refine LLM_move (i := 4) hP.1.2.2.1 hP.1.2.2.2 hP.1.2.1 (fun c z => ?_) (fun c t z w => ?_) (fun c t z w => ?_) (fun c t z w => ?_) hM
    · rw [dk _ _ (by omega)]
      rcases z with rfl | rfl
      · rw [g9]; exact hM.1.2.symm
      · rw [g5]; exact hM.1.1.symm
    · rw [d3 _ _ (by omega), b3 _ _ (by omega), a2 c t z (by omega) w, gk _ _ (by omega) (by omega)]
    · rw [d3 _ _ (by omega), b2 c t z (by omega) w, a3 _ _ (by omega), gk _ _ (by omega) (by omega)]
    · rw [d2 c t z (by omega) w, b3 _ _ (by omega), a3 _ _ (by omega), gk _ _ (by omega) (by omega)]
  · rw [d3 _ _ (by omega), b3 _ _ (by omega), a3 _ _ (by omega), gk _ _ z (by omega)]
set_option maxHeartbeats 6000000 in
theorem ps_laws {F : Nat} (hF : 6000 ≤ F) : PS_laws F (InvP I4d I5d I6d) := by
  intro h a1 hI _
  have hI0 := hI
  have h6 := I6d_get hI.2.2.2.2.2
  obtain ⟨⟨t, tc, tm, hlt, hb⟩, _, h3, _, _, _⟩ := hI
  by_cases q : 0 ≤ a1 ∧ a1 < 4
  · obtain ⟨i, rfl⟩ : ∃ i : Nat, a1 = (i : Int) := ⟨a1.toNat, by omega⟩
    have hi : i < 4 := by omega
    have h60 := h6
    obtain ⟨⟨S, s1, s2, s3⟩, l1, l2, l3⟩ := h6
    obtain ⟨L, t1, t2, t3⟩ := l1 i hi
    have hLS : L ≠ S := fun e => s3 i hi (by rw [t1, e])
    have hS := LCell_far s2
    have hL := LCell_far t2
    have hdis := LCell_dis s2 t2 hLS
    -- the beginning of the reference, from any heap that has the tape
    have ini : ∀ g : HF, g 181 2 = (t.length : Int) → (∀ i, i < t.length → g 182 i = t.getD i 0) → ∀ K : HF → RO, ∃ hc' hm', fX10_readLaws F 86 1 S h = some (0, hc') ∧ rlM F (i : Int) K (lwI g) = K hm' ∧ ((hc' 86 0 = 0 ∧ hm' 181 35 = 0 ∧ ∃ (nl ns T : Nat) (sg mn se lf rt lw : Nat → Nat), LLC hc' S nl ns T sg mn se lf rt lw ∧ LLM hm' 4 nl ns T sg mn se lf rt lw ∧ LLP nl ns T sg mn se lf rt lw ∧ hm' 202 4 = (ns : Int)) ∨ Er hc' hm') ∧ hc' 1 1 = 0 ∧ (∀ c i, (c ≠ 86 ∨ 4 < i) → (c < 87 ∨ 90 < c) → (c < S ∨ S + 7 < c ∨ (c = S + 1 ∧ i = 0) ∨ (c = S + 3 ∧ i = 0)) → (c ≠ 1 ∨ i ≠ 1) → hc' c i = h c i) ∧ FlM (lwI g) hm' := fun g g2 g3 K => by
      refine rl2 (F := F) (t := t) (S := S) (u2 := (i : Int)) (K := K) (by omega) s2 hlt tc (l3 S s2) ?_ (fun j hj => ?_) ?_ ?_ ?_ ?_ ?_
      · unfold lwI
        rw [stp_ne (by omega), stp_ne (by omega), stp_ne (by omega), stp_ne (by omega), stp_ne (by omega), stp_ne (by omega), stp_eq]
        exact g2
      · rw [lwI_k (by omega) (by omega)]; exact g3 j hj
      · unfold lwI
        rw [stp_ne (by omega), stp_ne (by omega), stp_ne (by omega), stp_ne (by omega), stp_eq]
      · unfold lwI
        rw [stp_ne (by omega), stp_ne (by omega), stp_ne (by omega), stp_eq]
      · unfold lwI
        rw [stp_ne (by omega), stp_ne (by omega), stp_eq]
      · unfold lwI
        rw [stp_ne (by omega), stp_eq]
      · unfold lwI
        rw [stp_eq]
    obtain ⟨hc, _, x1, -, -, x4, x5, -⟩ := ini h tm.1 tm.2 (fun h => some (0, h))
    have again : ∀ g : HF, (∀ i, g 182 i = h 182 i) → g 181 2 = h 181 2 → ∀ K : HF → RO, ∃ hm', rlM F (i : Int) K (lwI g) = K hm' ∧ ((hc 86 0 = 0 ∧ hm' 181 35 = 0 ∧ ∃ (nl ns T : Nat) (sg mn se lf rt lw : Nat → Nat), LLC hc S nl ns T sg mn se lf rt lw ∧ LLM hm' 4 nl ns T sg mn se lf rt lw ∧ LLP nl ns T sg mn se lf rt lw ∧ hm' 202 4 = (ns : Int)) ∨ Er hc hm') ∧ FlM (lwI g) hm' := fun g g1 g2 K => by
      obtain ⟨hc', hm', y1, y2, y3, -, -, y6⟩ := ini g (by rw [g2]; exact tm.1) (fun j hj => by rw [g1]; exact tm.2 j hj) K
      rw [x1] at y1
      injection y1 with y1
      injection y1 with _ y1
      subst y1
      exact ⟨hm', y2, y3, y6⟩
    have cls : fX11_laws F 0 (i : Int) h = if hc 86 0 = 0 then (zrl hc (0 + 77) (i : Int) fun x6 => zgd hc 0 6 fun x7 => zwr hc (0 + 77) (i : Int) ((x7 : Nat) : Int) fun h => zpf h 0 6 ((x6 : Nat) : Int) fun h => zrl h (0 + 77) (i : Int) fun x8 => zgf h x8 0 fun x9 => some (x9, h)) else some (wr ((-100) - hc 86 1), hc) := by
      unfold fX11_laws
      rw [isList_c, zbd_some, bl_pos (by omega), if_neg (show ¬ (1 : Int) = 0 by decide), zgd_at s1]
      show zbd (fX10_readLaws F 86 1 S h) _ = _
      rw [x1, zbd_some]
      rfl
    have k181 : ∀ c i, (77 ≤ c → c ≠ 86 ∧ (c < 87 ∨ 90 < c)) → (c < S ∨ S + 7 < c) → (c ≠ 1 ∨ i ≠ 1) → hc c i = h c i := fun c i z w v => x5 c i (by omega) (by omega) (by omega) v
    by_cases q0 : hc 86 0 = 0
    · -- the list changes
      have c77 : hc 77 i = (L : Int) := by rw [k181 _ _ (by omega) (by omega) (by omega)]; exact t1
      have c06 : hc 0 6 = (S : Int) := by rw [k181 _ _ (by omega) (by omega) (by omega)]; exact s1
      generalize hh1 : stp (stp hc 77 i (S : Int)) 0 6 (L : Int) = h1
      have h1k : ∀ c j, (c ≠ 77 ∨ j ≠ i) → (c ≠ 0 ∨ j ≠ 6) → h1 c j = hc c j := fun c j z w => by rw [← hh1, stp_ne w, stp_ne z]
      have h177 : h1 77 i = (S : Int) := by rw [← hh1, stp_ne (by omega), stp_eq]
      have h106 : h1 0 6 = (L : Int) := by rw [← hh1, stp_eq]
      obtain ⟨hm, y1, y2, y3⟩ := again h1 (fun j => by rw [h1k _ _ (by omega) (by omega), k181 _ _ (by omega) (by omega) (by omega)]) (by rw [h1k _ _ (by omega) (by omega), k181 _ _ (by omega) (by omega) (by omega)]) (lwK F (i : Int))
      rcases y2 with ⟨_, z2, nl, ns, T, sg, mn, se, lf, rt, lw, z3, z4, z5, z6⟩ | er
      · obtain ⟨hf, v1, v2, v3, v4⟩ := lwK_ok (F := F) (i := i) (by omega) hi z2 z6 z4 z5
        -- what is left as it was
        have fk : ∀ c j, (c < 181 ∨ (c = 181 ∧ j < 31 ∧ j ≠ 0 ∧ j ≠ 2 ∧ j ≠ 5) ∨ (181 < c ∧ c < 194) ∨ 205 < c ∨ (194 ≤ c ∧ c ≤ 197 ∧ (j < 80 * i ∨ 80 * i + 80 ≤ j) ∧ j < 320) ∨ ((c = 199 ∨ c = 202 ∨ c = 205) ∧ j ≠ i ∧ j < 4) ∨ ((c = 200 ∨ c = 201) ∧ (j < 40 * i ∨ 40 * i + 40 ≤ j) ∧ j < 160) ∨ ((c = 203 ∨ c = 204) ∧ (j < 7 * i ∨ 7 * i + 7 ≤ j) ∧ j < 28)) → hf c j = h1 c j := fun c j z => by
          rw [v4 c j (by omega) (by omega), y3 c j (by omega) (by omega), lwI_k (by omega) (by omega)]
        have f11 : hf 1 1 = 0 := by rw [fk _ _ (by omega), h1k _ _ (by omega) (by omega)]; exact x4
        have f812 : hf 181 2 = 0 := by
          rw [v4 _ _ (by omega) (by omega), y3 _ _ (by omega) (by omega)]
          unfold lwI
          rw [stp_ne (by omega), stp_ne (by omega), stp_ne (by omega), stp_ne (by omega), stp_ne (by omega), stp_eq]
        have f860 : hf 86 0 = 0 := by rw [fk _ _ (by omega), h1k _ _ (by omega) (by omega)]; exact q0
        refine ⟨(nl : Int), h1, hf, ?_, ?_, Inv_laws hI0 f11 f812 (fun c j z => ?_) (by rw [f860, v3]) (by rw [f860]; decide) ⟨⟨L, ?_, t2, fun j hj => ?_⟩, fun j hj => ?_, fun j k hj hk hjk => ?_, fun M hM => ?_⟩⟩
        · rw [cls, if_pos q0, zrl_at hi c77, zgd_at c06, wt77 hi, zpf_eq, hh1, zrl_at hi h177, zgf_eq, h1k _ _ (by omega) (by omega), z3.1.1]
        · rw [lawsM_eq hi, y1, v1]
        · rw [fk _ _ (by omega), h1k _ _ (by omega) (by omega), k181 _ _ (by omega) (by omega) (by omega)]
        · rw [fk _ _ (by omega)]; exact h106
        · rw [fk _ _ (by omega)]
          by_cases e : j = i
          · subst e; rw [h177]; omega
          · rw [h1k _ _ (by omega) (by omega), k181 _ _ (by omega) (by omega) (by omega), ← t1]
            exact l2 j i hj hi e
        · by_cases e : j = i
          · subst e
            refine ⟨S, by rw [fk _ _ (by omega)]; exact h177, s2, ?_, Or.inr ⟨nl, ns, T, sg, mn, se, lf, rt, lw, LLC_keep (fun c k z => by rw [fk _ _ (by omega), h1k _ _ (by omega) (by omega)]) z3, v2, z5⟩⟩
            rw [fk _ _ (by omega), h1k _ _ (by omega) (by omega), z3.1.1, v2.1.1]
          · obtain ⟨M, u1, u2, u3⟩ := l1 j hj
            have hM := LCell_far u2
            have hMS : M ≠ S := fun e => s3 j hj (by rw [u1, e])
            have dM := LCell_dis s2 u2 hMS
            refine ⟨M, by rw [fk _ _ (by omega), h1k _ _ (by omega) (by omega), k181 _ _ (by omega) (by omega) (by omega)]; exact u1, u2, ?_⟩
            have ck : ∀ c k, (M ≤ c ∧ c ≤ M + 7) → hf c k = h c k := fun c k z => by rw [fk _ _ (by omega), h1k _ _ (by omega) (by omega), k181 _ _ (by omega) (by omega) (by omega)]
            have mk : ∀ c k, 194 ≤ c → (194 ≤ c ∧ c ≤ 197 ∧ (k < 80 * i ∨ 80 * i + 80 ≤ k) ∧ k < 320) ∨ ((c = 199 ∨ c = 202 ∨ c = 205) ∧ k ≠ i ∧ k < 4) ∨ ((c = 200 ∨ c = 201) ∧ (k < 40 * i ∨ 40 * i + 40 ≤ k) ∧ k < 160) ∨ ((c = 203 ∨ c = 204) ∧ (k < 7 * i ∨ 7 * i + 7 ≤ k) ∧ k < 28) → hf c k = h c k := fun c k z0 z => by rw [fk _ _ (by omega), h1k _ _ (by omega) (by omega), k181 _ _ (by omega) (by omega) (by omega)]
            have hij : j < i ∨ i < j := by omega
            exact LR_keep hj ck (fun c z => mk c j (by omega) (by omega)) (fun c k z w => mk c _ (by omega) (Or.inl ⟨z.1, z.2, by omega, by omega⟩)) (fun c k z w => mk c _ (by omega) (Or.inr (Or.inr (Or.inl ⟨z, by omega, by omega⟩)))) (fun c k z w => mk c _ (by omega) (Or.inr (Or.inr (Or.inr ⟨z, by omega, by omega⟩)))) u3
        · rw [fk _ _ (by omega), fk _ _ (by omega)]
          by_cases e : j = i
          · subst e
            rw [h177, h1k _ _ (by omega) (by omega), k181 _ _ (by omega) (by omega) (by omega)]
            exact fun z => s3 k hk z.symm
          · rw [h1k _ _ (by omega) (by omega), k181 _ _ (by omega) (by omega) (by omega)]
            by_cases e2 : k = i
            · subst e2
              rw [h177]
              exact s3 j hj
            · rw [h1k _ _ (by omega) (by omega), k181 _ _ (by omega) (by omega) (by omega)]
              exact l2 j k hj hk hjk
        · have hMf := LCell_far hM
          rw [fk _ _ (by omega), fk _ _ (by omega), h1k _ _ (by omega) (by omega), h1k _ _ (by omega) (by omega)]
          by_cases e : M = S
          · subst e
            rw [x5 _ _ (by omega) (by omega) (by omega) (by omega), x5 _ _ (by omega) (by omega) (by omega) (by omega)]
            exact l3 M hM
          · have dM := LCell_dis s2 hM e
            rw [k181 _ _ (by omega) (by omega) (by omega), k181 _ _ (by omega) (by omega) (by omega)]
            exact l3 M hM
      · obtain ⟨k, p, p1, p2, p3, p4, _⟩ := er
        omega
    · -- a fault: the list stays
      obtain ⟨hm, y1, y2, y3⟩ := again hc (fun j => by rw [k181 _ _ (by omega) (by omega) (by omega)]) (by rw [k181 _ _ (by omega) (by omega) (by omega)]) (lwK F (i : Int))
      rcases y2 with ⟨z, _⟩ | ⟨k, p, p1, p2, p3, p4, p5, p6, p7⟩
      · exact absurd z q0
      · have eK : lwK F (i : Int) hm = some (wr ((-100) - (p : Int)), stp hm 181 5 (k : Int)) := by
          unfold lwK
          rw [zgf_eq, p6, zpf_eq, zgf_eq, stp_ne (by omega), p6, if_neg (by omega), zgf_eq, stp_ne (by omega), p7]
        have fk : ∀ c j, (c < 181 ∨ (c = 181 ∧ j < 31 ∧ j ≠ 0 ∧ j ≠ 2 ∧ j ≠ 5) ∨ (181 < c ∧ c < 194) ∨ 205 < c ∨ (194 ≤ c ∧ c ≤ 197 ∧ j < 320) ∨ ((c = 199 ∨ c = 202 ∨ c = 205) ∧ j < 4) ∨ ((c = 200 ∨ c = 201) ∧ j < 160) ∨ ((c = 203 ∨ c = 204) ∧ j < 28)) → stp hm 181 5 (k : Int) c j = hc c j := fun c j z => by
          rw [stp_ne (by omega), y3 c j (by omega) (by omega), lwI_k (by omega) (by omega)]
        have f812 : stp hm 181 5 (k : Int) 181 2 = 0 := by
          rw [stp_ne (by omega), y3 _ _ (by omega) (by omega)]
          unfold lwI
          rw [stp_ne (by omega), stp_ne (by omega), stp_ne (by omega), stp_ne (by omega), stp_ne (by omega), stp_eq]
        refine ⟨wr ((-100) - (p : Int)), hc, stp hm 181 5 (k : Int), ?_, ?_, Inv_laws hI0 (by rw [fk _ _ (by omega)]; exact x4) f812 (fun c j z => ?_) ?_ ?_ ?_⟩
        · rw [cls, if_neg q0, p5]
        · rw [lawsM_eq hi, y1, eK]
        · rw [fk _ _ (by omega), k181 _ _ (by omega) (by omega) (by omega)]
        · rw [stp_eq, stp_ne (by omega), y3 _ _ (by omega) (by omega), lwI_k (by omega) (by omega)]; exact p4
        · rw [fk _ _ (by omega), p4]; exact ⟨by omega, by omega⟩
        · -- the spare list alone changed
          refine ⟨⟨S, by rw [fk _ _ (by omega), k181 _ _ (by omega) (by omega) (by omega)]; exact s1, s2, fun j hj => by rw [fk _ _ (by omega), k181 _ _ (by omega) (by omega) (by omega)]; exact s3 j hj⟩, fun j hj => ?_, fun j k hj hk hjk => by rw [fk _ _ (by omega), fk _ _ (by omega), k181 _ _ (by omega) (by omega) (by omega), k181 _ _ (by omega) (by omega) (by omega)]; exact l2 j k hj hk hjk, fun M hM => ?_⟩
          · obtain ⟨M, u1, u2, u3⟩ := l1 j hj
            have hM := LCell_far u2
            have hMS : M ≠ S := fun e => s3 j hj (by rw [u1, e])
            have dM := LCell_dis s2 u2 hMS
            have ck : ∀ c k', (194 ≤ c ∨ (M ≤ c ∧ c ≤ M + 7)) → ((M ≤ c ∧ c ≤ M + 7) ∨ (194 ≤ c ∧ c ≤ 197 ∧ k' < 320) ∨ ((c = 199 ∨ c = 202 ∨ c = 205) ∧ k' < 4) ∨ ((c = 200 ∨ c = 201) ∧ k' < 160) ∨ ((c = 203 ∨ c = 204) ∧ k' < 28)) → stp hm 181 5 (k : Int) c k' = h c k' := fun c k' z0 z => by rw [fk _ _ (by omega), k181 _ _ (by omega) (by omega) (by omega)]
            exact ⟨M, by rw [fk _ _ (by omega), k181 _ _ (by omega) (by omega) (by omega)]; exact u1, u2, LR_keep hj (fun c k' z => ck c k' (by omega) (by omega)) (fun c z => ck c _ (by omega) (by omega)) (fun c k' z w => ck c _ (by omega) (by omega)) (fun c k' z w => ck c _ (by omega) (by omega)) (fun c k' z w => ck c _ (by omega) (by omega)) u3⟩
          · have hMf := LCell_far hM
            rw [fk _ _ (by omega), fk _ _ (by omega)]
            by_cases e : M = S
            · subst e
              rw [x5 _ _ (by omega) (by omega) (by omega) (by omega), x5 _ _ (by omega) (by omega) (by omega) (by omega)]
              exact l3 M hM
            · have dM := LCell_dis s2 hM e
              rw [k181 _ _ (by omega) (by omega) (by omega), k181 _ _ (by omega) (by omega) (by omega)]
              exact l3 M hM
  · -- no list
    refine ⟨-3, stp h 1 1 0, stp (stp (stp (stp h 1 1 0) 181 0 0) 181 31 (stp (stp h 1 1 0) 181 0 0 181 2)) 181 2 0, ?_, ?_, ?_⟩
    · unfold fX11_laws fX10_passOver
      rw [isList_c, zbd_some, bl_neg q, if_pos rfl]
      rfl
    · unfold fX12_laws
      rw [zpf_eq, zgf_eq, zpf_eq, zpf_eq, isList_m, zbd_some, bl_neg q, if_pos rfl]
    · have k : ∀ c j, (c ≠ 1 ∨ j ≠ 1) → (c ≠ 181 ∨ (j ≠ 0 ∧ j ≠ 31 ∧ j ≠ 2)) → stp (stp (stp (stp h 1 1 0) 181 0 0) 181 31 (stp (stp h 1 1 0) 181 0 0 181 2)) 181 2 0 c j = h c j := fun c j z w => by rw [stp_ne (by omega), stp_ne (by omega), stp_ne (by omega), stp_ne (by omega)]
      refine Inv_laws hI0 (by rw [stp_ne (by omega), stp_ne (by omega), stp_ne (by omega), stp_eq]) (stp_eq _ _ _ _) (fun c j z => k c j (by omega) (by omega)) ?_ ?_ (I6d_congr (fun c j z => k c j (by have := S6_out z; omega) (by have := S6_out z; omega)) h6)
      · rw [k _ _ (by omega) (by omega), k _ _ (by omega) (by omega)]; exact h3.1
      · rw [k _ _ (by omega) (by omega)]; exact h3.2
