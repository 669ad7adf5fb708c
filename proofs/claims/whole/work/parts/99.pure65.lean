/-! laws: terms, both sides -/
def OkT (t : List Int) (m S nl lo w T : Nat) (sg mn se : Nat → Nat) (hc hm : HF) (x y : RO) : Prop := ∃ (hc' hm' : HF) (a' T' : Nat) (sg' mn' se' pc' : Nat → Nat), x = some (1, hc') ∧ y = some ((T : Int), hm') ∧ RD t m S hc' hm' a' ∧ T2 S nl lo hc' hm' T' sg' mn' se' pc' ∧ TT sg' mn' se' (8 - w) T T' ∧ (∀ j, j < T → sg' j = sg j ∧ mn' j = mn j ∧ se' j = se j) ∧ FtC S nl T hc hc' ∧ FtM T hm hm'
def BadT (S nl T : Nat) (hc hm : HF) (x y : RO) : Prop := ∃ (hc' hm' : HF) (r : Int), x = some (0, hc') ∧ y = some (r, hm') ∧ Er hc' hm' ∧ FtC S nl T hc hc' ∧ FtM T hm hm'
section TS
variable {F : Nat} {t : List Int} {m S nl lo : Nat}
/-- a term has an argument -/
theorem T2_one {T T0 : Nat} {sg mn se pc : Nat → Nat} {hc hm : HF} (hS : LCell S) (h0 : T0 < T) (h3 : 3 ≤ sg T0) (h2 : T2 S nl lo hc hm T sg mn se pc) : T2 S nl lo (stp hc (S + 6) T0 1) (stp (stp hm 196 (320 + T0) ((T0 + 1 : Nat) : Int)) 195 (320 + T0) 1) T sg (upF mn T0 1) se pc := by
  have hf := LCell_far hS
  obtain ⟨⟨b1, b2, b3, b4, b5⟩, brow, bv⟩ := h2
  refine ⟨⟨by rw [stp_ne (by omega)]; exact b1, by rw [stp_ne (by omega)]; exact b2, by rw [stp_ne (by omega), stp_ne (by omega)]; exact b3, b4, b5⟩, fun j hj => ?_, VB_keep (stp_ne (by omega)) bv⟩
  obtain ⟨⟨r1, r2, r3, r4⟩, ⟨r5, r6, r7, r8, r9⟩, r10, r11, r12, r13⟩ := brow j hj
  by_cases e : j = T0
  · subst e
    rw [upF_eq]
    refine ⟨⟨by rw [stp_ne (by omega)]; exact r1, by rw [stp_eq]; rfl, fun z => absurd z (by decide), by rw [stp_ne (by omega)]; exact r4⟩, ⟨by rw [stp_ne (by omega), stp_ne (by omega)]; exact r5, by rw [stp_eq]; rfl, fun _ => by rw [stp_ne (by omega), stp_eq], fun z => absurd z (by decide), by rw [stp_ne (by omega), stp_ne (by omega)]; exact r9⟩, r10, fun z => absurd z (by omega), by omega, r13⟩
  · rw [upF_ne e]
    refine ⟨⟨by rw [stp_ne (by omega)]; exact r1, by rw [stp_ne (by omega)]; exact r2, fun z => by rw [stp_ne (by omega)]; exact r3 z, by rw [stp_ne (by omega)]; exact r4⟩, ⟨by rw [stp_ne (by omega), stp_ne (by omega)]; exact r5, by rw [stp_ne (by omega), stp_ne (by omega)]; exact r6, fun z => by rw [stp_ne (by omega), stp_ne (by omega)]; exact r7 z, fun z => by rw [stp_ne (by omega), stp_ne (by omega)]; exact r8 z, by rw [stp_ne (by omega), stp_ne (by omega)]; exact r9⟩, r10, r11, r12, r13⟩
theorem T2_sec {T T0 : Nat} {v : Int} {sg mn se pc : Nat → Nat} {hc hm : HF} (hS : LCell S) (h1 : mn T0 ≠ 2) (h2 : T2 S nl lo hc hm T sg mn se pc) : T2 S nl lo (stp hc (S + 7) T0 v) hm T sg mn se pc := by
  have hf := LCell_far hS
  obtain ⟨⟨b1, b2, b3, b4, b5⟩, brow, bv⟩ := h2
  refine ⟨⟨by rw [stp_ne (by omega)]; exact b1, by rw [stp_ne (by omega)]; exact b2, b3, b4, b5⟩, fun j hj => ?_, VB_keep (stp_ne (by omega)) bv⟩
  obtain ⟨⟨r1, r2, r3, r4⟩, r5⟩ := brow j hj
  refine ⟨⟨by rw [stp_ne (by omega)]; exact r1, by rw [stp_ne (by omega)]; exact r2, fun z => ?_, by rw [stp_ne (by omega)]; exact r4⟩, r5⟩
  rw [stp_ne (Or.inr (fun e => h1 (by rw [← e]; exact z)))]
  exact r3 z
theorem T2_two {T T0 T1 : Nat} {sg mn se pc : Nat → Nat} {hc hm : HF} (hS : LCell S) (h0 : T0 < T) (h3 : 3 ≤ sg T0) (h1 : mn T0 = 1) (h7 : hc (S + 7) T0 = (T1 : Int)) (h2 : T2 S nl lo hc hm T sg mn se pc) : T2 S nl lo (stp hc (S + 6) T0 2) (stp (stp hm 197 (320 + T0) (T1 : Int)) 195 (320 + T0) 2) T sg (upF mn T0 2) (upF se T0 T1) pc := by
  have hf := LCell_far hS
  obtain ⟨⟨b1, b2, b3, b4, b5⟩, brow, bv⟩ := h2
  refine ⟨⟨by rw [stp_ne (by omega)]; exact b1, by rw [stp_ne (by omega)]; exact b2, by rw [stp_ne (by omega), stp_ne (by omega)]; exact b3, b4, b5⟩, fun j hj => ?_, VB_keep (stp_ne (by omega)) bv⟩
  obtain ⟨⟨r1, r2, r3, r4⟩, ⟨r5, r6, r7, r8, r9⟩, r10, r11, r12, r13⟩ := brow j hj
  by_cases e : j = T0
  · subst e
    rw [upF_eq, upF_eq]
    refine ⟨⟨by rw [stp_ne (by omega)]; exact r1, by rw [stp_eq]; rfl, fun _ => by rw [stp_ne (by omega)]; exact h7, by rw [stp_ne (by omega)]; exact r4⟩, ⟨by rw [stp_ne (by omega), stp_ne (by omega)]; exact r5, by rw [stp_eq]; rfl, fun _ => by rw [stp_ne (by omega), stp_ne (by omega)]; exact r7 (by omega), fun _ => by rw [stp_ne (by omega), stp_eq], by rw [stp_ne (by omega), stp_ne (by omega)]; exact r9⟩, r10, fun z => absurd z (by omega), by omega, r13⟩
  · rw [upF_ne e, upF_ne e]
    refine ⟨⟨by rw [stp_ne (by omega)]; exact r1, by rw [stp_ne (by omega)]; exact r2, fun z => by rw [stp_ne (by omega)]; exact r3 z, by rw [stp_ne (by omega)]; exact r4⟩, ⟨by rw [stp_ne (by omega), stp_ne (by omega)]; exact r5, by rw [stp_ne (by omega), stp_ne (by omega)]; exact r6, fun z => by rw [stp_ne (by omega), stp_ne (by omega)]; exact r7 z, fun z => by rw [stp_ne (by omega), stp_ne (by omega)]; exact r8 z, by rw [stp_ne (by omega), stp_ne (by omega)]; exact r9⟩, r10, r11, r12, r13⟩
theorem T2_keep {T : Nat} {sg mn se pc : Nat → Nat} {hc hm hc' hm' : HF} (hS : LCell S) (e1 : ∀ c i, (S ≤ c ∧ c ≤ S + 7) ∨ c = 89 → hc' c i = hc c i) (e2 : ∀ c i, 194 ≤ c ∧ c ≤ 199 → hm' c i = hm c i) (h2 : T2 S nl lo hc hm T sg mn se pc) : T2 S nl lo hc' hm' T sg mn se pc := by
  obtain ⟨⟨b1, b2, b3, b4, b5⟩, brow, bv⟩ := h2
  refine ⟨⟨by rw [e1 _ _ (by omega)]; exact b1, by rw [e1 _ _ (by omega)]; exact b2, by rw [e2 _ _ (by omega)]; exact b3, b4, b5⟩, fun j hj => ?_, VB_keep (e1 _ _ (by omega)) bv⟩
  obtain ⟨⟨r1, r2, r3, r4⟩, ⟨r5, r6, r7, r8, r9⟩, r10⟩ := brow j hj
  exact ⟨⟨by rw [e1 _ _ (by omega)]; exact r1, by rw [e1 _ _ (by omega)]; exact r2, fun z => by rw [e1 _ _ (by omega)]; exact r3 z, by rw [e1 _ _ (by omega)]; exact r4⟩, ⟨by rw [e2 _ _ (by omega)]; exact r5, by rw [e2 _ _ (by omega)]; exact r6, fun z => by rw [e2 _ _ (by omega)]; exact r7 z, fun z => by rw [e2 _ _ (by omega)]; exact r8 z, by rw [e2 _ _ (by omega)]; exact r9⟩, r10⟩
/-- what stands behind the arguments -/
def closeC (F : Nat) (h : HF) : RO := zbd (fX10_takes F 86 41 h) fun r4 h => zjn (fun (y87_0 : Int) (h : HF) => (zrz y87_0 h)) fun j87 => zjn (fun  (h : HF) => (j87 1 h)) fun j82 => if r4 = 0 then (zbd (fX10_failHere F 86 1 h) fun r5 h => if r5 = 0 then (j87 0 h) else (j82  h)) else (j82  h)
theorem closeA {w a T0 T' : Nat} {sg mn se sg' mn' se' pc' : Nat → Nat} {hcB hmB hc hm : HF} (hF : 402 ≤ F) (hT : HT t m) (hS : LCell S) (hR : RD t m S hc hm a) (h2 : T2 S nl lo hc hm T' sg' mn' se' pc') (tt : TT sg' mn' se' (8 - w) T0 T') (ag : ∀ j, j < T0 → sg' j = sg j ∧ mn' j = mn j ∧ se' j = se j) (f1 : FtC S nl T0 hcB hc) (f2 : FtM T0 hmB hm) : OkT t m S nl lo w T0 sg mn se hcB hmB (closeC F hc) (zbd (fX12_must F 181 41 hm) fun _ h => some (wr (((320 + T0 : Nat) : Int) - 320), h)) ∨ BadT S nl T0 hcB hmB (closeC F hc) (zbd (fX12_must F 181 41 hm) fun _ h => some (wr (((320 + T0 : Nat) : Int) - 320), h)) := by
  have hf := LCell_far hS
  have lt := TT_lt _ _ _ tt
  have b4 := h2.1.2.2.2.1
  have ew : wr (((320 + T0 : Nat) : Int) - 320) = (T0 : Int) := by rw [wr_id ⟨by omega, by omega⟩]; omega
  rw [ew]
  unfold closeC
  rcases must2 (F := F) (b := 41) hF hT (by decide) hR with ⟨hm', x1, x2, x3, x4⟩ | ⟨x0, hc', hm', x1, x2, x3, x4, x5⟩
  · refine Or.inl ⟨_, hm', a + 1, T', sg', mn', se', pc', ?_, ?_, x3, T2_keep hS (fun c i z => stp_ne (by omega)) (fun c i z => x4 _ _ (by omega)) h2, tt, ag, ?_, ?_⟩
    · rw [x1, zbd_some]
      simp only [zjn_eq]
      rw [if_neg (by decide)]
      rfl
    · rw [x2, zbd_some]
    · exact FtC_tr (Nat.le_refl _) f1 (fun c i z1 z2 z3 z4 => stp_ne (by omega))
    · exact FtM_tr (Nat.le_refl _) f2 (fun c i z1 z2 z3 z4 => x4 _ _ (by omega))
  · refine Or.inr ⟨hc', hm', (T0 : Int), ?_, ?_, x3, FtC_tr (Nat.le_refl _) f1 (fun c i z1 z2 z3 z4 => x4 _ _ (by omega)), FtM_tr (Nat.le_refl _) f2 (fun c i z1 z2 z3 z4 => x5 _ _ (by omega))⟩
    · rw [x0, zbd_some]
      simp only [zjn_eq]
      rw [if_pos trivial, x1, zbd_some, if_pos rfl]
      rfl
    · rw [x2, zbd_some]
/-- arguments, on both sides -/
theorem simA {D w a T0 : Nat} {sg mn se pc : Nat → Nat} {hc hm : HF} (hF : 402 ≤ F) (hT : HT t m) (hS : LCell S)
    (IH : ∀ (a T : Nat) (sg mn se pc : Nat → Nat) (hc hm : HF), RD t m S hc hm a → T2 S nl lo hc hm T sg mn se pc → OkT t m S nl lo (w + 1) T sg mn se hc hm (fX10_readTerm F D 86 ((w + 1 : Nat) : Int) hc) (fX12_term F D 181 ((w + 1 : Nat) : Int) hm) ∨ BadT S nl T hc hm (fX10_readTerm F D 86 ((w + 1 : Nat) : Int) hc) (fX12_term F D 181 ((w + 1 : Nat) : Int) hm))
    (hw : w < 8) (hR : RD t m S hc hm a) (h2 : T2 S nl lo hc hm (T0 + 1) sg mn se pc) (h3 : 3 ≤ sg T0) {x y : RO} (ex : x = fX10_readArguments F (fX10_readTerm F D) 86 (T0 : Int) ((w + 1 : Nat) : Int) hc)
    (ey : y = zbd (fX12_term F D 181 ((w + 1 : Nat) : Int) hm) fun r16 h => zwr h (181 + 15) ((320 + T0 : Nat) : Int) r16 fun h => zwr h (181 + 14) ((320 + T0 : Nat) : Int) 1 fun h => zbd (fX12_takes F 181 44 h) fun r17 h => if r17 = 0 then (zbd (fX12_must F 181 41 h) fun _ h => some (wr (((320 + T0 : Nat) : Int) - 320), h)) else (zbd (fX12_term F D 181 ((w + 1 : Nat) : Int) h) fun r19 h => zwr h (181 + 16) ((320 + T0 : Nat) : Int) r19 fun h => zwr h (181 + 14) ((320 + T0 : Nat) : Int) 2 fun h => (zbd (fX12_must F 181 41 h) fun _ h => some (wr (((320 + T0 : Nat) : Int) - 320), h)))) :
    OkT t m S nl lo w T0 sg mn se hc hm x y ∨ BadT S nl T0 hc hm x y := by
  have hf := LCell_far hS
  obtain ⟨-, -, -, -, -, k6, k7⟩ := LCell_kl hS
  have b80 := h2.1.2.2.2.1
  have e8 : 8 - w = (8 - (w + 1)) + 1 := by omega
  have exC : x = zbd (fX10_readTerm F D 86 ((w + 1 : Nat) : Int) hc) fun r1 h => if r1 = 0 then zrz 0 h else zgd h 86 4 fun x2 => zwr h (x2 + 6) (T0 : Int) 1 fun h => zbd (fX10_takes F 86 44 h) fun r3 h => if r3 = 0 then closeC F h else zgd h 86 4 fun x6 => zgd h 86 4 fun x7 => zgf h x7 2 fun x8 => zwr h (x6 + 7) (T0 : Int) x8 fun h => zbd (fX10_readTerm F D 86 ((w + 1 : Nat) : Int) h) fun r9 h => if r9 = 0 then zrz 0 h else zgd h 86 4 fun x10 => zwr h (x10 + 6) (T0 : Int) 2 fun h => closeC F h := ex
  clear ex
  rcases IH a (T0 + 1) sg mn se pc hc hm hR h2 with ⟨hc1, hm1, a1, T1, sg1, mn1, se1, pc1, e1, e2, R1, B1, tt1, ag1, f1, f2⟩ | ⟨hc1, hm1, r, e1, e2, er, f1, f2⟩
  · have lt1 := TT_lt _ _ _ tt1
    have c80 := B1.1.2.2.2.1
    have s3 : 3 ≤ sg1 T0 := by rw [(ag1 T0 (by omega)).1]; exact h3
    have B2 := T2_one hS (show T0 < T1 by omega) s3 B1
    have R2 : RD t m S (stp hc1 (S + 6) T0 1) (stp (stp hm1 196 (320 + T0) ((T0 + 1 : Nat) : Int)) 195 (320 + T0) 1) a1 := RD_m (fun c i z => by rw [stp_ne (by omega), stp_ne (by omega)]) (RD_c (fun c i z => stp_ne (by omega)) R1)
    have F1 : FtC S nl T0 hc (stp hc1 (S + 6) T0 1) := fun c i z1 z2 z3 z4 => by rw [stp_ne (by omega)]; exact f1 c i z1 z2 z3 (by omega)
    have F2 : FtM T0 hm (stp (stp hm1 196 (320 + T0) ((T0 + 1 : Nat) : Int)) 195 (320 + T0) 1) := fun c i z1 z2 z3 z4 => by rw [stp_ne (by omega), stp_ne (by omega)]; exact f2 c i z1 (by omega) (by omega) z4
    have tt2 : TT sg1 (upF mn1 T0 1) se1 (8 - (w + 1)) (T0 + 1) T1 := TT_congr _ _ _ (fun j x _ => ⟨rfl, upF_ne (by omega), fun _ => rfl⟩) tt1
    have ag2 : ∀ j, j < T0 → sg1 j = sg j ∧ upF mn1 T0 1 j = mn j ∧ se1 j = se j := fun j hj => by
      rw [upF_ne (by omega)]; exact ag1 j (by omega)
    rw [e1, zbd_some, if_neg (by decide), zgd_at R1.1.2.1, zwr_ok (a := S + 6) ⟨by omega, by omega⟩, Int.toNat_natCast] at exC
    rw [e2, zbd_some, wtm15 (by omega), wtm14 (by omega)] at ey
    generalize stp hc1 (S + 6) T0 1 = hc2 at exC B2 R2 F1
    generalize stp (stp hm1 196 (320 + T0) ((T0 + 1 : Nat) : Int)) 195 (320 + T0) 1 = hm2 at ey B2 R2 F2
    rcases takes2 (F := F) (b := 44) hF hT (by decide) R2 with ⟨_, hm3, x1, x2, x3, x4⟩ | ⟨_, x1, x2⟩
    · have B3 := T2_sec (T0 := T0) (v := (T1 : Int)) hS (by rw [upF_eq]; decide) (T2_keep (hc' := stp hc2 86 3 ((a1 + 1 : Nat) : Int)) (hm' := hm3) hS (fun c i z => stp_ne (by omega)) (fun c i z => x4 _ _ (by omega)) B2)
      rw [x1, zbd_some, if_neg (by decide), zgd_at x3.1.2.1, zgd_at x3.1.2.1, zgf_eq, stp_ne (by omega), B2.1.1, zwr_ok (a := S + 7) ⟨by omega, by omega⟩, Int.toNat_natCast] at exC
      rw [x2, zbd_some, if_neg (by decide)] at ey
      have R4 : RD t m S (stp (stp hc2 86 3 ((a1 + 1 : Nat) : Int)) (S + 7) T0 (T1 : Int)) hm3 (a1 + 1) := RD_c (fun c i z => stp_ne (by omega)) x3
      have F3 : FtC S nl T0 hc (stp (stp hc2 86 3 ((a1 + 1 : Nat) : Int)) (S + 7) T0 (T1 : Int)) := fun c i z1 z2 z3 z4 => by rw [stp_ne (by omega), stp_ne (by omega)]; exact F1 c i z1 z2 z3 z4
      have F4 : FtM T0 hm hm3 := fun c i z1 z2 z3 z4 => by rw [x4 _ _ (by omega)]; exact F2 c i z1 z2 z3 z4
      have g7 : stp (stp hc2 86 3 ((a1 + 1 : Nat) : Int)) (S + 7) T0 (T1 : Int) (S + 7) T0 = (T1 : Int) := stp_eq _ _ _ _
      generalize stp (stp hc2 86 3 ((a1 + 1 : Nat) : Int)) (S + 7) T0 (T1 : Int) = hc4 at exC B3 R4 F3 g7
      rcases IH (a1 + 1) T1 sg1 (upF mn1 T0 1) se1 pc1 hc4 hm3 R4 B3 with ⟨hc5, hm5, a2, T3, sg2, mn2, se2, pc2, d1, d2, R5, B5, tt5, ag5, f5, f6⟩ | ⟨hc5, hm5, r, d1, d2, er, f5, f6⟩
      · have lt5 := TT_lt _ _ _ tt5
        have d80 := B5.1.2.2.2.1
        have p7 : hc5 (S + 7) T0 = (T1 : Int) := by rw [f5 _ _ (by omega) (by omega) (by omega) (by omega)]; exact g7
        have s5 : 3 ≤ sg2 T0 := by rw [(ag5 T0 (by omega)).1]; exact s3
        have B6 := T2_two hS (show T0 < T3 by omega) s5 (by rw [(ag5 T0 (by omega)).2.1, upF_eq]) p7 B5
        rw [d1, zbd_some, if_neg (by decide), zgd_at R5.1.2.1, zwr_ok (a := S + 6) ⟨by omega, by omega⟩, Int.toNat_natCast] at exC
        rw [d2, zbd_some, wtm16 (by omega), wtm14 (by omega)] at ey
        rw [exC, ey]
        refine closeA (a := a2) (T' := T3) hF hT hS ?_ B6 ?_ ?_ ?_ ?_
        · exact RD_m (fun c i z => by rw [stp_ne (by omega), stp_ne (by omega)]) (RD_c (fun c i z => stp_ne (by omega)) R5)
        · rw [e8]
          refine Or.inr (Or.inr ⟨s5, upF_eq, ?_, ?_⟩)
          · rw [upF_eq]
            exact TT_congr _ _ _ (fun j x y => ⟨(ag5 j y).1, by rw [upF_ne (by omega)]; exact (ag5 j y).2.1, fun _ => by rw [upF_ne (by omega)]; exact (ag5 j y).2.2⟩) tt2
          · rw [upF_eq]
            exact TT_congr _ _ _ (fun j x y => ⟨rfl, upF_ne (by omega), fun _ => upF_ne (by omega)⟩) tt5
        · intro j hj
          rw [upF_ne (by omega), upF_ne (by omega)]
          obtain ⟨u1, u2, u3⟩ := ag5 j (by omega)
          obtain ⟨v1, v2, v3⟩ := ag2 j hj
          exact ⟨u1.trans v1, u2.trans v2, u3.trans v3⟩
        · exact fun c i z1 z2 z3 z4 => by rw [stp_ne (by omega), f5 c i z1 z2 z3 (by omega)]; exact F3 c i z1 z2 z3 z4
        · exact fun c i z1 z2 z3 z4 => by rw [stp_ne (by omega), stp_ne (by omega), f6 c i z1 (by omega) (by omega) z4]; exact F4 c i z1 z2 z3 z4
      · have ne := Er_ne er
        have ne2 : ¬ stp (stp hm5 197 (320 + T0) r) 195 (320 + T0) 2 181 35 = 0 := by rw [stp_ne (by omega), stp_ne (by omega)]; exact ne
        rw [d1, zbd_some, if_pos rfl] at exC
        rw [d2, zbd_some, wtm16 (by omega), wtm14 (by omega), must_err ne2, zbd_some] at ey
        refine Or.inr ⟨hc5, _, _, exC, ey, Er_keep rfl rfl (by rw [stp_ne (by omega), stp_ne (by omega)]) (by rw [stp_ne (by omega), stp_ne (by omega)]) er, ?_, ?_⟩
        · exact fun c i z1 z2 z3 z4 => by rw [f5 c i z1 z2 z3 (by omega)]; exact F3 c i z1 z2 z3 z4
        · exact fun c i z1 z2 z3 z4 => by rw [stp_ne (by omega), stp_ne (by omega), f6 c i z1 (by omega) (by omega) z4]; exact F4 c i z1 z2 z3 z4
    · rw [x1, zbd_some, if_pos rfl] at exC
      rw [x2, zbd_some, if_pos rfl] at ey
      rw [exC, ey]
      refine closeA (a := a1) (T' := T1) hF hT hS R2 B2 ?_ ag2 F1 F2
      rw [e8]
      exact Or.inr (Or.inl ⟨s3, upF_eq, tt2⟩)
  · have ne := Er_ne er
    have ne2 : ¬ stp (stp hm1 196 (320 + T0) r) 195 (320 + T0) 1 181 35 = 0 := by rw [stp_ne (by omega), stp_ne (by omega)]; exact ne
    rw [e1, zbd_some, if_pos rfl] at exC
    rw [e2, zbd_some, wtm15 (by omega), wtm14 (by omega), takes_err ne2, zbd_some, if_pos rfl, must_err ne2, zbd_some] at ey
    refine Or.inr ⟨hc1, _, _, exC, ey, Er_keep rfl rfl (by rw [stp_ne (by omega), stp_ne (by omega)]) (by rw [stp_ne (by omega), stp_ne (by omega)]) er, ?_, ?_⟩
    · exact fun c i z1 z2 z3 z4 => f1 c i z1 z2 z3 (by omega)
    · exact fun c i z1 z2 z3 z4 => by rw [stp_ne (by omega), stp_ne (by omega)]; exact f2 c i z1 (by omega) (by omega) z4
end TS
