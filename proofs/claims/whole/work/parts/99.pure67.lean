/-! laws: sames -/
def L2 (S : Nat) (hc hm : HF) (ns T : Nat) (lf rt sg mn se : Nat → Nat) : Prop := (hc S 1 = (ns : Int) ∧ hm 202 4 = (ns : Int) ∧ 2 * ns ≤ T ∧ lf 0 = 0 ∧ lf ns = T) ∧ (∀ k, k ≤ ns → hc (S + 3) k = (lf k : Int)) ∧ ∀ k, k < ns → hc (S + 4) k = (rt k : Int) ∧ hm 200 (160 + k) = (lf k : Int) ∧ hm 201 (160 + k) = (rt k : Int) ∧ TT sg mn se 8 (lf k) (rt k) ∧ TT sg mn se 8 (rt k) (lf (k + 1))
def FsC (S nl : Nat) (h h' : HF) : Prop := ∀ c i, (c ≠ 86 ∨ (i ≠ 0 ∧ i ≠ 1 ∧ i ≠ 3)) → c ≠ 89 → (c < S ∨ S + 7 < c ∨ c = S + 1 ∨ (c = S + 2 ∧ i ≠ nl) ∨ (c = S ∧ i ≠ 1 ∧ i ≠ 2) ∨ (c = S + 3 ∧ i = 0)) → h' c i = h c i
def FsM (h h' : HF) : Prop := ∀ c i, (c ≠ 181 ∨ i < 32 ∨ 36 < i) → (c < 194 ∨ 205 < c ∨ (194 ≤ c ∧ c ≤ 197 ∧ i < 320) ∨ ((c = 199 ∨ c = 202) ∧ i ≠ 4) ∨ ((c = 200 ∨ c = 201) ∧ i < 160) ∨ c = 203 ∨ c = 204 ∨ c = 205) → h' c i = h c i
theorem FsC_tr {S nl : Nat} {h h' h'' : HF} (a : FsC S nl h h') (b : FsC S nl h' h'') : FsC S nl h h'' := fun c i x1 x2 x3 => (b c i x1 x2 x3).trans (a c i x1 x2 x3)
theorem FsM_tr {h h' h'' : HF} (a : FsM h h') (b : FsM h' h'') : FsM h h'' := fun c i x1 x2 => (b c i x1 x2).trans (a c i x1 x2)
theorem FsC_0 {S nl : Nat} {h : HF} : FsC S nl h h := fun _ _ _ _ _ => rfl
theorem FsM_0 {h : HF} : FsM h h := fun _ _ _ _ => rfl
theorem FsC_t {S nl T : Nat} {h h' : HF} (hS : LCell S) (a : FtC S nl T h h') : FsC S nl h h' := fun c i x1 x2 x3 => by
  have hf := LCell_far hS
  exact a c i x1 (by omega) (by omega) (by omega)
theorem FsM_t {T : Nat} {h h' : HF} (a : FtM T h h') : FsM h h' := fun c i x1 x2 => by
  by_cases q : c = 198
  · omega
  · exact a c i x1 (by omega) (by omega) (by omega)
theorem L2_le {S ns T : Nat} {hc hm : HF} {lf rt sg mn se : Nat → Nat} (hl : L2 S hc hm ns T lf rt sg mn se) : ∀ m k, k + m = ns → lf k ≤ T
  | 0, k, h => by rw [show k = ns by omega, hl.1.2.2.2.2]; exact Nat.le_refl _
  | m + 1, k, h => by
    have h1 := L2_le hl m (k + 1) (by omega)
    obtain ⟨-, -, -, t1, t2⟩ := hl.2.2 k (by omega)
    have := TT_lt _ _ _ t1
    have := TT_lt _ _ _ t2
    omega
section TS
variable {F : Nat} {t : List Int} {m S nl lo : Nat}
theorem same_err {hm : HF} (h : ¬ hm 181 35 = 0) : fX12_same F 181 hm = some (0, hm) := by
  unfold fX12_same
  have r4 : ∀ (h : HF) (f : Int → RO), zrd h (181 + 21) 4 f = f (h 202 4) := fun h f => rdm21 (i := 4) (by omega)
  rw [r4, zlet_eq, term_err h, zbd_some, must_err h, zbd_some, term_err h, zbd_some, zgf_eq, zjn_eq, if_neg h]
theorem endSame_eq {h : HF} {ns T R : Nat} (hS : LCell S) (h1 : h S 1 = (ns : Int)) (hn : ns < 40) (h2 : h S 2 = (T : Int)) : fX4_endSame F S (R : Int) h = some (0, stp (stp (stp h (S + 4) ns (R : Int)) S 1 ((ns + 1 : Nat) : Int)) (S + 3) (ns + 1) (T : Int)) := by
  obtain ⟨-, -, k3, k4, -⟩ := LCell_kl hS
  unfold fX4_endSame
  rw [zgf_eq, h1, zwr_ok (a := S + 4) ⟨by omega, by omega⟩, Int.toNat_natCast, zgf_eq, stp_ne (by omega), h1, wr_s (by omega), zpf_eq, zgf_eq, stp_eq, zgf_eq, stp_ne (by omega), stp_ne (by omega), h2, zwr_ok (a := S + 3) ⟨by omega, by omega⟩, Int.toNat_natCast]
theorem same2 {a T ns : Nat} {sg mn se pc lf rt : Nat → Nat} {hc hm : HF} (hF : 402 ≤ F) (hT : HT t m) (hS : LCell S) (hn : nl < 6) (hR : RD t m S hc hm a) (h2 : T2 S nl lo hc hm T sg mn se pc) (hl : L2 S hc hm ns T lf rt sg mn se) :
    (∃ (hc' hm' : HF) (a' T' R : Nat) (sg' mn' se' pc' : Nat → Nat), fX10_readSame F 86 hc = some (1, hc') ∧ fX12_same F 181 hm = some (0, hm') ∧ RD t m S hc' hm' a' ∧ T2 S nl lo hc' hm' T' sg' mn' se' pc' ∧ L2 S hc' hm' (ns + 1) T' (upF lf (ns + 1) T') (upF rt ns R) sg' mn' se' ∧ T + 2 ≤ T' ∧ (∀ j, j < T → sg' j = sg j) ∧ FsC S nl hc hc' ∧ FsM hm hm')
    ∨ (∃ hc' hm', fX10_readSame F 86 hc = some (0, hc') ∧ fX12_same F 181 hm = some (0, hm') ∧ Er hc' hm' ∧ FsC S nl hc hc' ∧ FsM hm hm') := by
  have hf := LCell_far hS
  have r4 : ∀ (h : HF) (f : Int → RO), zrd h (181 + 21) 4 f = f (h 202 4) := fun h f => rdm21 (i := 4) (by omega)
  have w4 : ∀ (h : HF) (v : Int) (f : HF → RO), zwr h (181 + 21) 4 v f = f (stp h 202 4 v) := fun h v f => wtm21 (i := 4) (by omega)
  obtain ⟨⟨l1, l2, l3, l4, l5⟩, lrow, lks⟩ := hl
  have b4 := h2.1.2.2.2.1
  have eC : fX10_readSame F 86 hc = zbd (fX10_readTerm F 10 86 ((0 : Nat) : Int) hc) fun r1 h => if r1 = 0 then zrz 0 h else zbd (fX10_takes F 86 61 h) fun r2 h => if r2 = 0 then (zbd (fX10_failHere F 86 1 h) fun r3 h => zrz r3 h) else zgd h 86 4 fun x4 => zgf h x4 2 fun x5 => zbd (fX10_readTerm F 10 86 ((0 : Nat) : Int) h) fun r6 h => if r6 = 0 then zrz 0 h else zgd h 86 4 fun x7 => zbd (fX4_endSame F x7 x5 h) fun _ h => zrz 1 h := rfl
  have eM : fX12_same F 181 hm = zbd (fX12_term F 10 181 ((0 : Nat) : Int) hm) fun r3 h => zbd (fX12_must F 181 61 h) fun _ h => zbd (fX12_term F 10 181 ((0 : Nat) : Int) h) fun r5 h => if h 181 35 = 0 then (zwr h (181 + 19) ((160 + ns : Nat) : Int) r3 fun h => zwr h (181 + 20) ((160 + ns : Nat) : Int) r5 fun h => zrd h (181 + 21) 4 fun x7 => zwr h (181 + 21) 4 (wr (x7 + 1)) fun h => some (0, h)) else some (0, h) := by
    unfold fX12_same
    rw [r4, l2, zlet_eq, wr_id (x := 160 + (ns : Int)) ⟨by omega, by omega⟩, show 160 + (ns : Int) = ((160 + ns : Nat) : Int) by omega]
    rfl
  rw [eC, eM]
  rcases simT (F := F) hF hT hS hn 10 0 a T sg mn se pc hc hm (by omega) (by omega) hR h2 with ⟨hc1, hm1, a1, T1, sg1, mn1, se1, pc1, e1, e2, R1, B1, tt1, ag1, f1, f2⟩ | ⟨hc1, hm1, r, e1, e2, er, f1, f2⟩
  · have lt1 := TT_lt _ _ _ tt1
    rw [e1, e2, zbd_some, zbd_some, if_neg (show ¬ (1 : Int) = 0 by decide)]
    rcases must2 (F := F) (b := 61) hF hT (by decide) R1 with ⟨hm2, x1, x2, x3, x4⟩ | ⟨x0, hc2, hm2, x1, x2, x3, x4, x5⟩
    · have B2 : T2 S nl lo (stp hc1 86 3 ((a1 + 1 : Nat) : Int)) hm2 T1 sg1 mn1 se1 pc1 := T2_keep hS (fun c i z => stp_ne (by omega)) (fun c i z => x4 _ _ (by omega)) B1
      rw [x1, x2, zbd_some, zbd_some, if_neg (show ¬ (1 : Int) = 0 by decide), zgd_at x3.1.2.1, zgf_eq, B2.1.1]
      have F1 : FtC S nl T hc (stp hc1 86 3 ((a1 + 1 : Nat) : Int)) := FtC_tr (Nat.le_refl _) f1 (fun c i z1 z2 z3 z4 => stp_ne (by omega))
      have F2 : FtM T hm hm2 := FtM_tr (Nat.le_refl _) f2 (fun c i z1 z2 z3 z4 => x4 _ _ (by omega))
      generalize stp hc1 86 3 ((a1 + 1 : Nat) : Int) = hc2 at x3 B2 F1
      rcases simT (F := F) hF hT hS hn 10 0 (a1 + 1) T1 sg1 mn1 se1 pc1 hc2 hm2 (by omega) (by omega) x3 B2 with ⟨hc3, hm3, a3, T3, sg3, mn3, se3, pc3, d1, d2, R3, B3, tt3, ag3, f3, f4⟩ | ⟨hc3, hm3, r, d1, d2, er, f3, f4⟩
      · have lt3 := TT_lt _ _ _ tt3
        have c80 := B3.1.2.2.2.1
        have G1 : FtC S nl T hc hc3 := FtC_tr (by omega) F1 f3
        have G2 : FtM T hm hm3 := FtM_tr (by omega) F2 f4
        have ks : hc3 S 1 = (ns : Int) := by rw [G1 _ _ (by omega) (by omega) (by omega) (by omega)]; exact l1
        refine Or.inl ⟨stp (stp (stp hc3 (S + 4) ns (T1 : Int)) S 1 ((ns + 1 : Nat) : Int)) (S + 3) (ns + 1) (T3 : Int), stp (stp (stp hm3 200 (160 + ns) (T : Int)) 201 (160 + ns) (T1 : Int)) 202 4 ((ns + 1 : Nat) : Int), a3, T3, T1, sg3, mn3, se3, pc3, ?_, ?_, ?_, ?_, ⟨⟨?_, ?_, by omega, by rw [upF_ne (by omega)]; exact l4, upF_eq⟩, fun k hk => ?_, fun k hk => ?_⟩, by omega, fun j hj => ?_, ?_, ?_⟩
        · rw [d1, zbd_some, if_neg (show ¬ (1 : Int) = 0 by decide), zgd_at R3.1.2.1, endSame_eq hS ks (by omega) B3.1.1, zbd_some]
          rfl
        · rw [d2, zbd_some, if_pos R3.2.2.2.2.2.2, wtm19 (by omega), wtm20 (by omega), r4, w4, stp_ne (by omega), stp_ne (by omega), G2 _ _ (by omega) (by omega) (by omega) (by omega), l2, wr_s (by omega)]
        · exact RD_m (fun c i z => by rw [stp_ne (by omega), stp_ne (by omega), stp_ne (by omega)]) (RD_c (fun c i z => by rw [stp_ne (by omega), stp_ne (by omega), stp_ne (by omega)]) R3)
        · obtain ⟨⟨p1, p2, p3, p4, p5⟩, prow, pv⟩ := B3
          refine ⟨⟨?_, ?_, ?_, p4, p5⟩, fun j hj => ?_, VB_keep (by rw [stp_ne (by omega), stp_ne (by omega), stp_ne (by omega)]) pv⟩
          · rw [stp_ne (by omega), stp_ne (by omega), stp_ne (by omega)]; exact p1
          · rw [stp_ne (by omega), stp_ne (by omega), stp_ne (by omega)]; exact p2
          · rw [stp_ne (by omega), stp_ne (by omega), stp_ne (by omega)]; exact p3
          · obtain ⟨⟨r1, r2, r3, r4⟩, ⟨r5, r6, r7, r8, r9⟩, r10⟩ := prow j hj
            have ck : ∀ c, (c = S + 5 ∨ c = S + 6 ∨ c = S + 7 ∨ c = 89) → stp (stp (stp hc3 (S + 4) ns (T1 : Int)) S 1 ((ns + 1 : Nat) : Int)) (S + 3) (ns + 1) (T3 : Int) c j = hc3 c j := fun c z => by rw [stp_ne (by omega), stp_ne (by omega), stp_ne (by omega)]
            have mk : ∀ c i, (194 ≤ c ∧ c ≤ 198) → stp (stp (stp hm3 200 (160 + ns) (T : Int)) 201 (160 + ns) (T1 : Int)) 202 4 ((ns + 1 : Nat) : Int) c i = hm3 c i := fun c i z => by rw [stp_ne (by omega), stp_ne (by omega), stp_ne (by omega)]
            exact ⟨⟨by rw [ck _ (by omega)]; exact r1, by rw [ck _ (by omega)]; exact r2, fun z => by rw [ck _ (by omega)]; exact r3 z, by rw [ck _ (by omega)]; exact r4⟩, ⟨by rw [mk _ _ (by omega)]; exact r5, by rw [mk _ _ (by omega)]; exact r6, fun z => by rw [mk _ _ (by omega)]; exact r7 z, fun z => by rw [mk _ _ (by omega)]; exact r8 z, by rw [mk _ _ (by omega)]; exact r9⟩, r10⟩
        · rw [stp_ne (by omega), stp_eq]
        · rw [stp_eq]
        · by_cases q : k = ns + 1
          · subst q; rw [stp_eq, upF_eq]
          · rw [stp_ne (by omega), stp_ne (by omega), stp_ne (by omega), upF_ne q, G1 _ _ (by omega) (by omega) (by omega) (by omega)]
            exact lrow k (by omega)
        · by_cases q : k = ns
          · subst q
            rw [upF_eq, upF_eq, upF_ne (by omega), l5]
            refine ⟨?_, ?_, ?_, ?_, ?_⟩
            · rw [stp_ne (by omega), stp_ne (by omega), stp_eq]
            · rw [stp_ne (by omega), stp_ne (by omega), stp_eq]
            · rw [stp_ne (by omega), stp_eq]
            · exact TT_congr _ _ _ (fun j x y => ⟨(ag3 j y).1, (ag3 j y).2.1, fun _ => (ag3 j y).2.2⟩) tt1
            · exact tt3
          · obtain ⟨u1, u2, u3, u4, u5⟩ := lks k (by omega)
            have v4 := TT_lt _ _ _ u4
            have v5 := TT_lt _ _ _ u5
            have v6 := L2_le (S := S) (hc := hc) (hm := hm) ⟨⟨l1, l2, l3, l4, l5⟩, lrow, lks⟩ (ns - (k + 1)) (k + 1) (by omega)
            have agr : ∀ j, j < T → sg3 j = sg j ∧ mn3 j = mn j ∧ (mn j = 2 → se3 j = se j) := fun j hj => by
              obtain ⟨y1, y2, y3⟩ := ag3 j (by omega)
              obtain ⟨z1, z2, z3⟩ := ag1 j hj
              exact ⟨y1.trans z1, y2.trans z2, fun _ => y3.trans z3⟩
            rw [upF_ne (by omega), upF_ne (by omega), upF_ne (by omega)]
            refine ⟨?_, ?_, ?_, ?_, ?_⟩
            · rw [stp_ne (by omega), stp_ne (by omega), stp_ne (by omega), G1 _ _ (by omega) (by omega) (by omega) (by omega)]; exact u1
            · rw [stp_ne (by omega), stp_ne (by omega), stp_ne (by omega), G2 _ _ (by omega) (by omega) (by omega) (by omega)]; exact u2
            · rw [stp_ne (by omega), stp_ne (by omega), stp_ne (by omega), G2 _ _ (by omega) (by omega) (by omega) (by omega)]; exact u3
            · exact TT_congr _ _ _ (fun j x y => agr j (by omega)) u4
            · exact TT_congr _ _ _ (fun j x y => agr j (by omega)) u5
        · exact (ag3 j (by omega)).1.trans (ag1 j hj).1
        · exact FsC_tr (FsC_t hS G1) (fun c i x1 x2 x3 => by rw [stp_ne (by omega), stp_ne (by omega), stp_ne (by omega)])
        · exact FsM_tr (FsM_t G2) (fun c i x1 x2 => by rw [stp_ne (by omega), stp_ne (by omega), stp_ne (by omega)])
      · have ne := Er_ne er
        refine Or.inr ⟨hc3, hm3, ?_, ?_, er, FsC_tr (FsC_t hS F1) (FsC_t hS f3), FsM_tr (FsM_t F2) (FsM_t f4)⟩
        · rw [d1, zbd_some, if_pos (show (0 : Int) = 0 from rfl)]; rfl
        · rw [d2, zbd_some, if_neg ne]
    · have ne := Er_ne x3
      refine Or.inr ⟨hc2, hm2, ?_, ?_, x3, FsC_tr (FsC_t hS f1) (fun c i z1 z2 z3 => x4 _ _ (by omega)), FsM_tr (FsM_t f2) (fun c i z1 z2 => x5 _ _ (by omega))⟩
      · rw [x0, zbd_some, if_pos (show (0 : Int) = 0 from rfl), x1, zbd_some]; rfl
      · rw [x2, zbd_some, term_err ne, zbd_some, if_neg ne]
  · have ne := Er_ne er
    refine Or.inr ⟨hc1, hm1, ?_, ?_, er, FsC_t hS f1, FsM_t f2⟩
    · rw [e1, zbd_some, if_pos (show (0 : Int) = 0 from rfl)]; rfl
    · rw [e2, zbd_some, must_err ne, zbd_some, term_err ne, zbd_some, if_neg ne]
end TS
