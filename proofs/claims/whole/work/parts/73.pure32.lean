/-! span, part: the calls -/
theorem ps_span {I5 I6 : HF → Prop} {F : Nat} (hF : 200 ≤ F) : PS_span F (InvP I4d I5 I6) := by
  intro h a1 a2 hI _ _
  have hI' := Inv_thrown hI
  have hD : ∀ d, d < 8 → DR h d := fun d hd => I4d_get hI.2.2.2.1 hd
  unfold fX11_span fX12_span fX0_closure
  simp only [zjn, zpf, zlet]
  by_cases q : rfs h a1 = 0
  · obtain ⟨d, n, ar, tb, rfl, hd, hw, hc, hm⟩ := held hD q
    have hm' := RepM_thrown hm
    have hn := hw.1.2
    have h7 := pw_7 hn
    have hp0 : 0 < 2 ^ n := Nat.pow_pos (by decide)
    by_cases q0 : a2 < 0
    · refine ⟨-3, h, stp h 181 0 0, ?_, ?_, hI'⟩
      · rw [refuse_c hD, zbd_some, if_pos q, drw_at hd, if_pos q0]
      · rw [refuse_m, zbd_some, rfs_thrown, if_pos q, if_pos q0]
    · obtain ⟨u, rfl⟩ : ∃ u : Nat, a2 = (u : Int) := ⟨a2.toNat, by omega⟩
      by_cases q1 : u < 2 ^ n
      · obtain ⟨y, e1, e2⟩ := mSp (F := F) (show d < 10 by omega) hw hm' (by omega) q1 (k := fun x h => some (x, h)) (2 ^ n) 0 (2 ^ n - 1) F (by omega) (by omega) (by omega)
        have c1 := closure_L (F := F) (kt_drw d hd) hw hc (by omega) (k := fun x h => some (x, h)) (n + 1) 0 F u (by omega) (by omega) q1
        have hbc := bc_le (x := u) n
        obtain ⟨b1, b2, b3, b4⟩ := itG_cl hw (n + 1) u q1 (by omega)
        have ey : y = itG tb n ar (n + 1) u := by
          apply bit_ext
          intro j
          rw [e2, Nat.testBit_two_pow_sub_one, decide_eq_true_eq]
          constructor
          · rintro ⟨_, w⟩
            exact w _ (Nat.zero_le _) b2 b3 ((grw_cl hw b2).mp b1)
          · intro w
            exact ⟨bit_lt b2 w, fun s' _ _ v3 v4 => b4 s' v3 v4 j w⟩
        refine ⟨((itG tb n ar (n + 1) u : Nat) : Int), h, stp h 181 0 0, ?_, ?_, hI'⟩
        · rw [refuse_c hD, zbd_some, if_pos q, drw_at hd, if_neg q0, allB_eq hn hc.1, zbd_some, if_neg (by omega)]
          exact congrArg (fun z => zbd z fun r h => some (r, h)) c1
        · rw [refuse_m, zbd_some, rfs_thrown, if_pos q, if_neg q0, msz (by omega) hm', shl_n hn, if_pos (by omega), msz (by omega) hm', full_eq hn, ← ey]
          exact e1
      · refine ⟨-3, h, stp h 181 0 0, ?_, ?_, hI'⟩
        · rw [refuse_c hD, zbd_some, if_pos q, drw_at hd, if_neg q0, allB_eq hn hc.1, zbd_some, if_pos (by omega)]
        · rw [refuse_m, zbd_some, rfs_thrown, if_pos q, if_neg q0, msz (by omega) hm', shl_n hn, if_neg (by omega)]
  · refine ⟨rfs h a1, h, stp h 181 0 0, ?_, ?_, hI'⟩
    · rw [refuse_c hD, zbd_some, if_neg q]
    · rw [refuse_m, zbd_some, rfs_thrown, if_neg q]
section PT
variable {F A d n : Nat} {ar : List Nat} {tb : Nat → Nat → Int} {h : HF}
theorem partCount_eq (hk : kt A = 0 + 3) (hw : WF n ar tb) (hr : RepC h A n ar tb) (hF : 200 ≤ F) : fX0_partCount F A h = some (((cnP (clB tb n ar) 1 0 (2 ^ n - 1) : Nat) : Int), h) := by
  have h7 := pw_7 hw.1.2
  have hp0 : 0 < 2 ^ n := Nat.pow_pos (by decide)
  exact cPc (F := F) hk hw hr (by omega) (k := fun x h => some (x, h)) (2 ^ n - 1) 1 0 F (by omega) (by omega) (by omega)
/-- part k, on both sides; none: there is none -/
def ptO (tb : Nat → Nat → Int) (n : Nat) (ar : List Nat) (k : Int) : Option Nat := if k < 0 then none else fdP (clB tb n ar) k.toNat 1 0 (2 ^ n - 1)
def ptI : Option Nat → Int
  | none => -1
  | some y => (y : Int)
theorem partBits_eq {k : Int} (hk : kt A = 0 + 3) (hw : WF n ar tb) (hr : RepC h A n ar tb) (hF : 200 ≤ F) : fX0_partBits F A k h = some (ptI (ptO tb n ar k), h) := by
  have h7 := pw_7 hw.1.2
  have hp0 : 0 < 2 ^ n := Nat.pow_pos (by decide)
  unfold fX0_partBits ptO
  simp only [zjn]
  by_cases q : k < 0
  · obtain ⟨N, rfl⟩ : ∃ M, F = M + 1 := ⟨F - 1, by omega⟩
    rw [if_pos q, LX0_partBits_4, allB_eq hw.1.2 hr.1, zbd_some]
    by_cases z : ((2 ^ n - 1 : Nat) : Int) < 1
    · rw [if_pos z]; rfl
    · rw [if_neg z, if_pos q]; rfl
  · obtain ⟨kk, rfl⟩ : ∃ u : Nat, k = (u : Int) := ⟨k.toNat, by omega⟩
    rw [if_neg q, Int.toNat_natCast]
    refine (cPb (F := F) hk hw hr (by omega) (kk := kk) (k42 := fun h => some (-1, h)) (k31 := fun x h => some (x, h)) (2 ^ n - 1) 1 0 F (by omega) (by omega) (by omega) (by omega)).trans ?_
    cases fdP (clB tb n ar) kk 1 0 (2 ^ n - 1) <;> rfl
theorem partOf_eq {k : Int} (hd : d < 10) (hw : WF n ar tb) (hr : RepM h 184 185 186 187 d n ar tb) (hF : 200 ≤ F) (hk : 0 ≤ k) : fX12_partOf F 181 (d : Int) k h = some (ptI (ptO tb n ar k), h) := by
  have h7 := pw_7 hw.1.2
  have hp0 : 0 < 2 ^ n := Nat.pow_pos (by decide)
  obtain ⟨kk, rfl⟩ : ∃ u : Nat, k = (u : Int) := ⟨k.toNat, by omega⟩
  unfold fX12_partOf ptO
  simp only [zjn]
  have ek : (fun (x45_3 : Int) (h : HF) => if (kk : Int) = -1 then (some (x45_3, h) : RO) else some (-1, h)) = fun _ h => some (-1, h) := by
    funext x h
    rw [if_neg (by omega)]
  rw [ek, if_neg (show ¬ (kk : Int) < 0 by omega), Int.toNat_natCast]
  refine (mPb (F := F) hd hw hr (by omega) (kk := kk) (w := -1) (k33 := fun x h => some (x, h)) (2 ^ n - 1) 1 0 F (by omega) (by omega) (by omega)).trans ?_
  cases fdP (clB tb n ar) kk 1 0 (2 ^ n - 1) <;> rfl
theorem partOf_all (hd : d < 10) (hw : WF n ar tb) (hr : RepM h 184 185 186 187 d n ar tb) (hF : 200 ≤ F) : fX12_partOf F 181 (d : Int) (-1) h = some (((cnP (clB tb n ar) 1 0 (2 ^ n - 1) : Nat) : Int), h) := by
  have h7 := pw_7 hw.1.2
  have hp0 : 0 < 2 ^ n := Nat.pow_pos (by decide)
  unfold fX12_partOf
  simp only [zjn]
  exact mPc (F := F) hd hw hr (by omega) (k33 := fun x h => some (x, h)) (2 ^ n - 1) 1 0 F (by omega) (by omega) (by omega)
end PT
theorem ps_part {I5 I6 : HF → Prop} {F : Nat} (hF : 200 ≤ F) : PS_part F (InvP I4d I5 I6) := by
  intro h a1 a2 hI _ _
  have hI' := Inv_thrown hI
  have hD : ∀ d, d < 8 → DR h d := fun d hd => I4d_get hI.2.2.2.1 hd
  unfold fX11_part fX12_part
  simp only [zjn, zpf]
  by_cases q : rfs h a1 = 0
  · obtain ⟨d, n, ar, tb, rfl, hd, hw, hc, hm⟩ := held hD q
    have hm' := RepM_thrown hm
    by_cases q1 : a2 = -1
    · subst q1
      refine ⟨((cnP (clB tb n ar) 1 0 (2 ^ n - 1) : Nat) : Int), h, stp h 181 0 0, ?_, ?_, hI'⟩
      · rw [refuse_c hD, zbd_some, if_pos q, drw_at hd, if_pos rfl, partCount_eq (kt_drw d hd) hw hc hF, zbd_some]
      · rw [refuse_m, zbd_some, rfs_thrown, if_pos q, if_neg (by decide), partOf_all (by omega) hw hm' hF, zbd_some, if_neg (by omega)]
    · refine ⟨if ptI (ptO tb n ar a2) = -1 then -3 else ptI (ptO tb n ar a2), h, stp h 181 0 0, ?_, ?_, hI'⟩
      · rw [refuse_c hD, zbd_some, if_pos q, drw_at hd, if_neg q1, partBits_eq (kt_drw d hd) hw hc hF, zbd_some]
        by_cases z : ptI (ptO tb n ar a2) = -1
        · rw [if_pos z, if_pos z]
        · rw [if_neg z, if_neg z]
      · rw [refuse_m, zbd_some, rfs_thrown, if_pos q]
        by_cases q2 : a2 < -1
        · have : ptO tb n ar a2 = none := if_pos (by omega)
          rw [if_pos q2, if_pos trivial, this]
          rfl
        · rw [if_neg q2, partOf_eq (by omega) hw hm' hF (by omega), zbd_some]
          by_cases z : ptI (ptO tb n ar a2) = -1
          · rw [if_pos z, if_pos z]
          · rw [if_neg z, if_neg z]
  · refine ⟨rfs h a1, h, stp h 181 0 0, ?_, ?_, hI'⟩
    · rw [refuse_c hD, zbd_some, if_neg q]
    · rw [refuse_m, zbd_some, rfs_thrown, if_neg q]
