/-! laws: one law, both sides; all laws -/
section TS
variable {F : Nat} {t : List Int} {m S nl : Nat}
theorem lawC_eq {hc : HF} : fX10_readLaw F 86 hc = zbd (fX10_readSame F 86 hc) fun r1 h => if r1 = 0 then zrz 0 h else zgf h 86 3 fun x2 => zrd h (86 + 1) x2 fun x3 => if x3 = 38 then LX10_readLaw_39 F 86 (lawC69 F) (fun h => zrz 0 h) F 0 h else zgf h 86 3 fun x12 => zrd h (86 + 1) x12 fun x13 => if x13 = 62 then LX10_readLaw_39 F 86 (lawC69 F) (fun h => zrz 0 h) F 0 h else lawC93 F h := rfl
/-- the reference's law behind its first test -/
def lawG (F : Nat) (h : HF) : RO := zrd h (181 + 24) 4 fun x2 => zlet (wr (28 + x2)) fun x3 => zrd h (181 + 21) 4 fun x4 => zwr h (181 + 22) x3 x4 fun h => zrd h (181 + 18) 4 fun x5 => zwr h (181 + 23) x3 x5 fun h => zbd (fX12_same F 181 h) fun _ h => LX12_law_76 F 181 (lawT F) F 0 h
theorem lawM_eq {hm : HF} : fX12_law F 181 hm = zrd hm (181 + 24) 4 fun x1 => if x1 = 6 then (zgf hm 181 33 fun x19 => zbd (fX12_isVariable F x19 hm) fun r20 h => if r20 = 0 then (zgf h 181 33 fun x22 => zbd (fX12_isLetter F x22 h) fun r23 h => if r23 = 0 then lawG F h else (zbd (fX12_wrong F 181 4 h) fun _ h => lawG F h)) else (zbd (fX12_wrong F 181 4 h) fun _ h => lawG F h)) else lawG F hm := rfl
theorem lawG_go {hm : HF} {ns T : Nat} (hn : nl ≤ 6) (h5 : hm 205 4 = (nl : Int)) (h2 : hm 202 4 = (ns : Int)) (h9 : hm 199 4 = (T : Int)) : lawG F hm = zbd (fX12_same F 181 (stp (stp hm 203 (28 + nl) (ns : Int)) 204 (28 + nl) (T : Int))) fun _ h => LX12_law_76 F 181 (lawT F) F 0 h := by
  have r8 : ∀ (h : HF) (f : Int → RO), zrd h (181 + 18) 4 f = f (h 199 4) := fun h f => rdm18 (i := 4) (by omega)
  have r1 : ∀ (h : HF) (f : Int → RO), zrd h (181 + 21) 4 f = f (h 202 4) := fun h f => rdm21 (i := 4) (by omega)
  have r4 : ∀ (h : HF) (f : Int → RO), zrd h (181 + 24) 4 f = f (h 205 4) := fun h f => rdm24 (i := 4) (by omega)
  unfold lawG
  rw [r4, h5, zlet_eq, wr_id (x := 28 + (nl : Int)) ⟨by omega, by omega⟩, show 28 + (nl : Int) = ((28 + nl : Nat) : Int) by omega, r1, h2, wtm22 (by omega), r8, stp_ne (by omega), h9, wtm23 (by omega)]
/-- behind a fault in its first same the reference's law does nothing more -/
theorem lawR_err {hm : HF} (hF : 1 ≤ F) (e : ¬ hm 181 35 = 0) : LX12_law_76 F 181 (lawT F) F 0 hm = some (0, hm) := by
  have h : ∀ N v, LX12_law_76 F 181 (lawT F) (N + 1) v hm = some (0, hm) := fun N v => by
    rw [LX12_law_76, takes_err e, zbd_some, if_pos rfl, lawT_err e]
  obtain ⟨N, e2⟩ : ∃ N, F = N + 1 := ⟨F - 1, by omega⟩
  rw [show LX12_law_76 F 181 (lawT F) F 0 hm = LX12_law_76 F 181 (lawT F) (N + 1) 0 hm by rw [← e2]]
  exact h N 0
theorem law2 {a : Nat} {hc hm : HF} (hF : 402 ≤ F) (hT : HT t m) (hS : LCell S) (hG : G2 t m S hc hm a nl) :
    (∃ hc' hm' a', nl < 6 ∧ fX10_readLaw F 86 hc = some (1, hc') ∧ fX12_law F 181 hm = some (0, hm') ∧ G2 t m S hc' hm' a' (nl + 1) ∧ FlC S hc hc' ∧ FlM hm hm')
    ∨ (∃ hc' hm', fX10_readLaw F 86 hc = some (0, hc') ∧ fX12_law F 181 hm = some (0, hm') ∧ Er hc' hm' ∧ FlC S hc hc' ∧ FlM hm hm') := by
  have hf := LCell_far hS
  have r4 : ∀ (h : HF) (f : Int → RO), zrd h (181 + 24) 4 f = f (h 205 4) := fun h f => rdm24 (i := 4) (by omega)
  obtain ⟨T, ns, sg, mn, se, pc, lf, rt, lw, hR, h2, hl, hW⟩ := hG
  have hR0 := hR
  obtain ⟨⟨c1, c2, c3, c4, c5⟩, m1, m2, m3, m4, m5, m6⟩ := hR
  have hm4 := hT.2.1
  have w1 := hW.1.1
  have w2 := hW.1.2.1
  rw [lawC_eq, lawM_eq, r4, w1]
  generalize hB : stp (stp hm 203 (28 + nl) (ns : Int)) 204 (28 + nl) (T : Int) = hmB
  have Bk : ∀ c i, c ≠ 203 → c ≠ 204 → hmB c i = hm c i := fun c i z1 z2 => by rw [← hB, stp_ne (Or.inl z2), stp_ne (Or.inl z1)]
  have B3 : ∀ c i, (c = 203 ∨ c = 204) → i ≠ 28 + nl → hmB c i = hm c i := fun c i z1 z2 => by rw [← hB, stp_ne (Or.inr z2), stp_ne (Or.inr z2)]
  have FB : FlM hm hmB := fun c i z1 z2 => by
    by_cases q : c = 203 ∨ c = 204
    · exact B3 c i q (by omega)
    · exact Bk c i (by omega) (by omega)
  by_cases q6 : nl = 6
  · -- a seventh law
    subst q6
    rw [if_pos (show ((6 : Nat) : Int) = 6 from rfl), zgf_eq, m3, isVar_eq, zbd_some]
    have eC : ∀ k : Nat, (k = 1 ∧ tsg (sn t a) = -1) ∨ (k = 4 ∧ ¬ tsg (sn t a) = -1) → fX10_readTerm F 10 86 0 hc = zbd (fX10_failHere F 86 (k : Int) hc) fun r h => zrz r h := fun k z => by
      rw [fX10_readTerm, zgf_eq, c3, rd87 (by omega), (c1 a c4).1, termSign_eq, zbd_some]
      rcases z with ⟨rfl, z⟩ | ⟨rfl, z⟩
      · rw [if_pos z]; rfl
      · rw [if_neg z, if_pos (by decide), zgd_at c2, zgf_eq, zjn_eq, h2.1.2.1, if_neg (by decide)]; rfl
    by_cases q0 : tsg (sn t a) = -1
    · have hv : ¬ (120 ≤ sn t a ∧ sn t a ≤ 122) := fun z => by unfold tsg at q0; rw [if_pos z] at q0; omega
      have hlt : ¬ (97 ≤ sn t a ∧ sn t a ≤ 100) := fun z => by unfold tsg at q0; rw [if_neg hv, if_pos z] at q0; omega
      rw [bl_neg hv, if_pos rfl, zgf_eq, m3, isLet_eq, zbd_some, bl_neg hlt, if_pos rfl, lawG_go w2 w1 hl.1.2.1 h2.1.2.2.1, hB]
      have RB : RD t m S hc hmB a := RD_m (fun c i z => Bk c i (by omega) (by omega)) hR0
      obtain ⟨hc', hm', y1, y2, y3, y4, y5⟩ := fail2 (F := F) (k := 1) hT (by omega) RB
      have ne := Er_ne y3
      have y2' : fX12_wrong F 181 1 hmB = some (0, hm') := y2
      have r2 : ∀ (h : HF) (f : Int → RO), zrd h (181 + 21) 4 f = f (h 202 4) := fun h f => rdm21 (i := 4) (by omega)
      refine Or.inr ⟨hc', hm', ?_, ?_, y3, fun c i z1 z2 z3 => y4 _ _ (by omega), FlM_tr FB (fun c i z1 z2 => y5 _ _ (by omega))⟩
      · unfold fX10_readSame
        rw [eC 1 (Or.inl ⟨rfl, q0⟩), y1, zbd_some]
        rfl
      · have es : fX12_same F 181 hmB = some (0, hm') := by
          unfold fX12_same
          rw [r2, zlet_eq, term_no (D := 9) RB.2.2.2.2.2.2 (by rw [RB.2.2.2.1]; exact q0)]
          rw [y2', zbd_some, zbd_some, must_err ne, zbd_some, term_err ne, zbd_some, zgf_eq, zjn_eq, if_neg ne]
        rw [es, zbd_some, lawR_err (by omega) ne]
    · obtain ⟨s, es, s7, sv, sx, sy⟩ := tsg_N q0
      obtain ⟨hc', hm', y1, y2, y3, y4, y5⟩ := fail2 (F := F) (k := 4) hT (by omega) hR0
      have ne := Er_ne y3
      have y2' : fX12_wrong F 181 4 hm = some (0, hm') := y2
      have k5 : hm' 205 4 = ((6 : Nat) : Int) := by rw [y5 _ _ (by omega)]; exact w1
      have k2 : hm' 202 4 = (ns : Int) := by rw [y5 _ _ (by omega)]; exact hl.1.2.1
      have k9 : hm' 199 4 = (T : Int) := by rw [y5 _ _ (by omega)]; exact h2.1.2.2.1
      have ne2 : ¬ stp (stp hm' 203 (28 + 6) (ns : Int)) 204 (28 + 6) (T : Int) 181 35 = 0 := by rw [stp_ne (by omega), stp_ne (by omega)]; exact ne
      refine Or.inr ⟨hc', stp (stp hm' 203 (28 + 6) (ns : Int)) 204 (28 + 6) (T : Int), ?_, ?_, Er_keep rfl rfl (by rw [stp_ne (by omega), stp_ne (by omega)]) (by rw [stp_ne (by omega), stp_ne (by omega)]) y3, fun c i z1 z2 z3 => y4 _ _ (by omega), fun c i z1 z2 => by rw [stp_ne (by omega), stp_ne (by omega)]; exact y5 _ _ (by omega)⟩
      · unfold fX10_readSame
        rw [eC 4 (Or.inr ⟨rfl, q0⟩), y1, zbd_some]
        rfl
      · have gg : lawG F hm' = some (0, stp (stp hm' 203 (28 + 6) (ns : Int)) 204 (28 + 6) (T : Int)) := by
          rw [lawG_go (nl := 6) (by omega) k5 k2 k9, same_err ne2, zbd_some, lawR_err (by omega) ne2]
        by_cases q3 : s < 3
        · rw [bl_pos (sv.mpr q3), if_neg (show ¬ (1 : Int) = 0 by decide), y2', zbd_some, gg]
        · rw [bl_neg (fun z => q3 (sv.mp z)), if_pos rfl, zgf_eq, m3, isLet_eq, zbd_some, bl_pos (by have := sy q3; omega), if_neg (show ¬ (1 : Int) = 0 by decide), y2', zbd_some, gg]
  · have hn : nl < 6 := by omega
    rw [if_neg (by omega), lawG_go w2 w1 hl.1.2.1 h2.1.2.2.1, hB]
    have M0 : Mid t m S nl T 0 ns T lf sg hc hmB hc hmB a T := ⟨ns, sg, mn, se, pc, lf, rt, RD_m (fun c i z => Bk c i (by omega) (by omega)) hR0, T2_keep hS (fun _ _ _ => rfl) (fun c i z => Bk c i (by omega) (by omega)) h2, L2_keep (fun _ _ _ => rfl) (fun c i z => Bk c i (by omega) (by omega)) hl, Nat.le_refl _, Nat.le_refl _, fun _ _ => rfl, fun _ _ => rfl, FsC_0, FsM_0⟩
    have fin : ∀ (hc2 hm2 : HF) (a2 T2' : Nat), Mid t m S nl T 1 ns T lf sg hc hmB hc2 hm2 a2 T2' → ∃ hc' hm', lawC93 F hc2 = some (1, hc') ∧ lawE hm2 = some (0, hm') ∧ G2 t m S hc' hm' a2 (nl + 1) ∧ FlC S hc hc' ∧ FlM hm hm' := fun hc2 hm2 a2 T2' M2 => law_end (F := F) hS hn hW hl.1.2.2.2.2 (fun j hj => L2_le hl (ns - j) j (by omega)) (by rw [← hB, stp_ne (by omega), stp_eq]) (by rw [← hB, stp_eq]) Bk B3 M2
    rcases mid_same (F := F) hF hT hS hn M0 with ⟨hc1, hm1, a1, T1, x1, x2, M1, x3, x4⟩ | ⟨hc1, hm1, x1, x2, x3, x4, x5⟩
    · rw [x1, x2, zbd_some, zbd_some, if_neg (show ¬ (1 : Int) = 0 by decide)]
      have M1' := M1
      obtain ⟨_, _, _, _, _, _, _, ⟨⟨d1, d2, d3, d4, d5⟩, _⟩, _⟩ := M1'
      rw [zgf_eq, d3, rd87 (by omega), (d1 a1 d4).1, zgf_eq, d3, rd87 (by omega), (d1 a1 d4).1]
      -- a last same behind >
      have last : ∀ (hc2 hm2 : HF) (a2 T2' : Nat), Mid t m S nl T 1 ns T lf sg hc hmB hc2 hm2 a2 T2' → (∃ hc' hm' a', (zbd (fX10_readSame F 86 hc2) fun r8 h => if r8 = 0 then zrz 0 h else lawC93 F h) = some (1, hc') ∧ (zbd (fX12_same F 181 hm2) fun _ h => lawE h) = some (0, hm') ∧ G2 t m S hc' hm' a' (nl + 1) ∧ FlC S hc hc' ∧ FlM hm hm') ∨ (∃ hc' hm', (zbd (fX10_readSame F 86 hc2) fun r8 h => if r8 = 0 then zrz 0 h else lawC93 F h) = some (0, hc') ∧ (zbd (fX12_same F 181 hm2) fun _ h => lawE h) = some (0, hm') ∧ Er hc' hm' ∧ FlC S hc hc' ∧ FlM hm hm') := fun hc2 hm2 a2 T2' M2 => by
        rcases mid_same (F := F) hF hT hS hn M2 with ⟨hc3, hm3, a3, T3, y1, y2, M3, y3, y4⟩ | ⟨hc3, hm3, y1, y2, y3, y4, y5⟩
        · obtain ⟨hc', hm', z1, z2, z3, z4, z5⟩ := fin hc3 hm3 a3 T3 M3
          refine Or.inl ⟨hc', hm', a3, ?_, ?_, z3, z4, z5⟩
          · rw [y1, zbd_some, if_neg (show ¬ (1 : Int) = 0 by decide), z1]
          · rw [y2, zbd_some, z2]
        · refine Or.inr ⟨hc3, hm3, ?_, ?_, y3, FlC_s y4, FlM_tr FB (FlM_s y5)⟩
          · rw [y1, zbd_some, if_pos rfl]; rfl
          · rw [y2, zbd_some, lawE_err (Er_ne y3)]
      by_cases q38 : sn t a1 = 38
      · rw [if_pos q38]
        rcases sames_L (F := F) hF hT hS hn (k69 := lawC69 F) (k61 := fun h => zrz 0 h) (k94 := lawT F) 80 0 F F a1 T1 0 hc1 hm1 (by omega) (by omega) (by omega) (by omega) x4 M1 with ⟨hc2, hm2, a2, T2', y1, y2, M2, y3⟩ | ⟨hc2, hm2, y1, y2, y3, y4, y5⟩
        · rw [show LX10_readLaw_39 F 86 (lawC69 F) (fun h => zrz 0 h) F 0 hc1 = lawC69 F hc2 from y1, y2, if_pos q38]
          unfold lawC69 lawT
          rw [if_neg (show ¬ (1 : Int) = 0 by decide)]
          rcases mid_takes (F := F) (ch := 62) hF hT hS (by decide) M2 with ⟨q, hm3, z1, z2, M3⟩ | ⟨q, z1, z2⟩
          · rw [z1, zbd_some, if_neg (show ¬ (1 : Int) = 0 by decide)]
            rw [show fX12_must F 181 62 hm2 = some (0, hm3) by unfold fX12_must; rw [z2, zbd_some, zjn_eq, if_neg (show ¬ (1 : Int) = 0 by decide)], zbd_some]
            rcases last _ _ _ _ M3 with ⟨hc', hm', a', v1, v2, v3⟩ | ⟨hc', hm', v1, v2, v3⟩
            · exact Or.inl ⟨hc', hm', a', hn, v1, v2, v3⟩
            · exact Or.inr ⟨hc', hm', v1, v2, v3⟩
          · obtain ⟨hc', hm', v1, v2, v3, v4, v5⟩ := mid_bad (F := F) (k := 1) hT (by omega) M2
            have ne := Er_ne v3
            have v1' : fX10_failHere F 86 1 hc2 = some (0, hc') := v1
            have v2' : fX12_wrong F 181 1 hm2 = some (0, hm') := v2
            refine Or.inr ⟨hc', hm', ?_, ?_, v3, FlC_s v4, FlM_tr FB (FlM_s v5)⟩
            · rw [z1, zbd_some, if_pos rfl, v1', zbd_some]; rfl
            · rw [show fX12_must F 181 62 hm2 = some (0, hm') by unfold fX12_must; rw [z2, zbd_some, zjn_eq, if_pos rfl, v2', zbd_some], zbd_some, same_err ne, zbd_some, lawE_err ne]
        · have ne := Er_ne y3
          rw [show LX10_readLaw_39 F 86 (lawC69 F) (fun h => zrz 0 h) F 0 hc1 = zrz 0 hc2 from y1, y2, lawT_err ne]
          exact Or.inr ⟨hc2, hm2, rfl, rfl, y3, FlC_s y4, FlM_tr FB (FlM_s y5)⟩
      · rw [if_neg q38]
        rcases mid_takes (F := F) (ch := 38) hF hT hS (by decide) M1 with ⟨q, _⟩ | ⟨q, z1, z2⟩
        · exact absurd q q38
        · obtain ⟨N, e2⟩ : ∃ N, F = N + 1 := ⟨F - 1, by omega⟩
          have eM : LX12_law_76 F 181 (lawT F) F 0 hm1 = lawT F 0 hm1 := by
            rw [show LX12_law_76 F 181 (lawT F) F 0 hm1 = LX12_law_76 F 181 (lawT F) (N + 1) 0 hm1 by rw [← e2], LX12_law_76, z2, zbd_some, if_pos rfl]
          have eC : LX10_readLaw_39 F 86 (lawC69 F) (fun h => zrz 0 h) F 0 hc1 = lawC69 F hc1 := by
            rw [show LX10_readLaw_39 F 86 (lawC69 F) (fun h => zrz 0 h) F 0 hc1 = LX10_readLaw_39 F 86 (lawC69 F) (fun h => zrz 0 h) (N + 1) 0 hc1 by rw [← e2], LX10_readLaw_39, if_pos (show (0 : Int) < 80 by decide), z1, zbd_some, if_pos rfl]
          rw [eM, eC]
          unfold lawT lawC69
          rw [if_pos (show (0 : Int) = 0 from rfl)]
          rcases mid_takes (F := F) (ch := 62) hF hT hS (by decide) M1 with ⟨q, hm3, z3, z4, M3⟩ | ⟨q, z3, z4⟩
          · rw [if_pos q, z3, z4, zbd_some, zbd_some, if_neg (show ¬ (1 : Int) = 0 by decide), if_neg (show ¬ (1 : Int) = 0 by decide)]
            rcases last _ _ _ _ M3 with ⟨hc', hm', a', v1, v2, v3⟩ | ⟨hc', hm', v1, v2, v3⟩
            · exact Or.inl ⟨hc', hm', a', hn, v1, v2, v3⟩
            · exact Or.inr ⟨hc', hm', v1, v2, v3⟩
          · rw [if_neg q, z4, zbd_some, if_pos (show (0 : Int) = 0 from rfl)]
            obtain ⟨hc', hm', v1, v2, v3⟩ := fin hc1 hm1 a1 T1 M1
            exact Or.inl ⟨hc', hm', a1, hn, v1, v2, v3⟩
    · have ne := Er_ne x3
      refine Or.inr ⟨hc1, hm1, ?_, ?_, x3, FlC_s x4, FlM_tr FB (FlM_s x5)⟩
      · rw [x1, zbd_some, if_pos rfl]; rfl
      · rw [x2, zbd_some, lawR_err (by omega) ne]
/-- all laws: the class's loop, the reference's -/
theorem laws_L (hF : 402 ≤ F) (hT : HT t m) (hS : LCell S) {u1 : Nat} {u2 : Int} {k76 : Int → HF → RO} {k84 : HF → RO} : ∀ (f nl N N' a : Nat) (hc hm : HF), nl + f = 6 → f + 2 ≤ N → f + 2 ≤ N' → G2 t m S hc hm a nl →
    (∃ hc' hm' a' nl', LX10_readLaws_29 F 86 u1 k76 N 1 1 (nl : Int) hc = k76 1 hc' ∧ (zbd (fX12_law F 181 hm) fun _ h => LX12_laws_68 F 181 u2 k84 N' h) = k84 hm' ∧ 1 ≤ nl' ∧ G2 t m S hc' hm' a' nl' ∧ FlC S hc hc' ∧ FlM hm hm')
    ∨ (∃ hc' hm', LX10_readLaws_29 F 86 u1 k76 N 1 1 (nl : Int) hc = k76 0 hc' ∧ (zbd (fX12_law F 181 hm) fun _ h => LX12_laws_68 F 181 u2 k84 N' h) = k84 hm' ∧ Er hc' hm' ∧ FlC S hc hc' ∧ FlM hm hm') := by
  have hf := LCell_far hS
  have stp1 : ∀ (N nl : Nat) (hc : HF), nl ≤ 6 → LX10_readLaws_29 F 86 u1 k76 (N + 1) 1 1 (nl : Int) hc = zbd (fX10_readLaw F 86 hc) fun r9 h => if r9 = 0 then LX10_readLaws_29 F 86 u1 k76 N r9 0 ((nl + 1 : Nat) : Int) h else zbd (fX10_takes F 86 59 h) fun r11 h => if r11 = 0 then LX10_readLaws_29 F 86 u1 k76 N r9 0 ((nl + 1 : Nat) : Int) h else LX10_readLaws_29 F 86 u1 k76 N r9 1 ((nl + 1 : Nat) : Int) h := fun N nl hc h6 => by
    rw [LX10_readLaws_29, if_neg (by omega), if_neg (by decide), if_neg (by decide)]
    simp only [zjn_eq, zlet_eq]
    rw [wr_s (by omega)]
  have bad : ∀ (N nl : Nat) (hc : HF), LX10_readLaws_29 F 86 u1 k76 (N + 1) 0 0 (nl : Int) hc = k76 0 hc := fun N nl hc => by
    rw [LX10_readLaws_29]
    by_cases q : 6 < (nl : Int)
    · rw [if_pos q]
    · rw [if_neg q, if_pos rfl]
  have done : ∀ (N nl : Nat) (hc : HF), LX10_readLaws_29 F 86 u1 k76 (N + 1) 1 0 (nl : Int) hc = k76 1 hc := fun N nl hc => by
    rw [LX10_readLaws_29]
    by_cases q : 6 < (nl : Int)
    · rw [if_pos q]
    · rw [if_neg q, if_neg (by decide), if_pos rfl]
  intro f
  induction f with
  | zero =>
    intro nl N N' a hc hm h6 hN hN' hG
    obtain ⟨N, rfl⟩ : ∃ M, N = M + 2 := ⟨N - 2, by omega⟩
    obtain ⟨N', rfl⟩ : ∃ M, N' = M + 2 := ⟨N' - 2, by omega⟩
    rw [stp1 _ _ _ (by omega)]
    rcases law2 (F := F) hF hT hS hG with ⟨hc', hm', a', x0, _⟩ | ⟨hc', hm', x1, x2, x3, x4, x5⟩
    · omega
    · have ne := Er_ne x3
      rw [x1, x2, zbd_some, zbd_some, if_pos rfl, bad, LX12_laws_68, takes_err ne, zbd_some, if_pos rfl]
      exact Or.inr ⟨hc', hm', rfl, rfl, x3, x4, x5⟩
  | succ f ih =>
    intro nl N N' a hc hm h6 hN hN' hG
    obtain ⟨N, rfl⟩ : ∃ M, N = M + 2 := ⟨N - 2, by omega⟩
    obtain ⟨N', rfl⟩ : ∃ M, N' = M + 2 := ⟨N' - 2, by omega⟩
    rw [stp1 _ _ _ (by omega)]
    rcases law2 (F := F) hF hT hS hG with ⟨hc', hm', a', x0, x1, x2, x3, x4, x5⟩ | ⟨hc', hm', x1, x2, x3, x4, x5⟩
    · rw [x1, x2, zbd_some, zbd_some, if_neg (show ¬ (1 : Int) = 0 by decide), LX12_laws_68]
      obtain ⟨T, ns, sg, mn, se, pc, lf, rt, lw, hR, h2, hl, hW⟩ := x3
      rcases takes2 (F := F) (b := 59) hF hT (by decide) hR with ⟨q, hm2, y1, y2, y3, y4⟩ | ⟨q, y1, y2⟩
      · rw [y1, y2, zbd_some, zbd_some, if_neg (show ¬ (1 : Int) = 0 by decide), if_neg (show ¬ (1 : Int) = 0 by decide)]
        have G' : G2 t m S (stp hc' 86 3 ((a' + 1 : Nat) : Int)) hm2 (a' + 1) (nl + 1) := by
          refine ⟨T, ns, sg, mn, se, pc, lf, rt, lw, y3, T2_keep hS (fun c i z => stp_ne (by omega)) (fun c i z => y4 _ _ (by omega)) h2, L2_keep (fun c i z => stp_ne (by omega)) (fun c i z => y4 _ _ (by omega)) hl, ?_⟩
          obtain ⟨⟨w1, w2⟩, w5, w6, w7, w8⟩ := hW
          refine ⟨⟨by rw [y4 _ _ (by omega)]; exact w1, w2⟩, fun j hj => by rw [stp_ne (by omega)]; exact w5 j hj, fun j hj => by rw [y4 _ _ (by omega), y4 _ _ (by omega)]; exact w6 j hj, fun j hj => ?_, fun j h1 h2 => by rw [stp_ne (by omega)]; exact w8 j h1 h2⟩
          obtain ⟨v1, w, v2, v3⟩ := w7 j hj
          exact ⟨v1, w, by rw [stp_ne (by omega)]; exact v2, v3⟩
        have F1 : FlC S hc (stp hc' 86 3 ((a' + 1 : Nat) : Int)) := FlC_tr x4 (fun c i z1 z2 z3 => stp_ne (by omega))
        have F2 : FlM hm hm2 := FlM_tr x5 (fun c i z1 z2 => y4 _ _ (by omega))
        rcases ih (nl + 1) (N + 1) (N' + 1) (a' + 1) _ hm2 (by omega) (by omega) (by omega) G' with ⟨hc3, hm3, a3, nl3, v1, v2, v3, v4, v5, v6⟩ | ⟨hc3, hm3, v1, v2, v3, v4, v5⟩
        · exact Or.inl ⟨hc3, hm3, a3, nl3, v1, v2, v3, v4, FlC_tr F1 v5, FlM_tr F2 v6⟩
        · exact Or.inr ⟨hc3, hm3, v1, v2, v3, FlC_tr F1 v4, FlM_tr F2 v5⟩
      · rw [y1, y2, zbd_some, zbd_some, if_pos (show (0 : Int) = 0 from rfl), if_pos (show (0 : Int) = 0 from rfl), done]
        exact Or.inl ⟨hc', hm', a', nl + 1, rfl, rfl, by omega, ⟨T, ns, sg, mn, se, pc, lf, rt, lw, hR, h2, hl, hW⟩, x4, x5⟩
    · have ne := Er_ne x3
      rw [x1, x2, zbd_some, zbd_some, if_pos rfl, bad, LX12_laws_68, takes_err ne, zbd_some, if_pos rfl]
      exact Or.inr ⟨hc', hm', rfl, rfl, x3, x4, x5⟩
end TS
