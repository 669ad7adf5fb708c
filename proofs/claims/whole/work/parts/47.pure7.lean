/-! centre: the reference's loops, and the call -/
section CF
variable {F d n o : Nat} {ar : List Nat} {tb : Nat → Nat → Int} {h : HF}
theorem msz (hd : d < 10) (hr : RepM h 184 185 186 187 d n ar tb) {f : Int → RO} : zrd h (181 + 3) (d : Int) f = f (n : Int) := by
  rw [zrd_ok (a := 181 + 3) ⟨by omega, by show _ < ((10 : Nat) : Int); omega⟩, Int.toNat_natCast, show h (181 + 3) d = (n : Int) from hr.1]
theorem mIn (hd : d < 10) (hw : WF n ar tb) (hr : RepM h 184 185 186 187 d n ar tb) (ho : o < ar.length) (h2 : ar.getD o 0 = 2) {a : Nat} (ha : a < n) {x : Int} {k : Int → Int → Int → HF → RO} : ∀ (m b N : Nat) (w : Bool), b + m = n → m + 1 ≤ N → LX12_centre_41 F 181 (d : Int) (o : Int) x (a : Int) k N (bi w) (b : Int) h = k x (a : Int) (bi (w && cmF (fun a b => tb o (ix n 2 a b)) a b m)) h := by
  have hn := hw.1.2
  intro m
  induction m with
  | zero =>
    intro b N w hb hN
    obtain ⟨N, rfl⟩ : ∃ M, N = M + 1 := ⟨N - 1, by omega⟩
    rw [LX12_centre_41, msz hd hr, if_neg (by omega)]
    simp [cmF]
  | succ m ih =>
    intro b N w hb hN
    obtain ⟨N, rfl⟩ : ∃ M, N = M + 1 := ⟨N - 1, by omega⟩
    rw [LX12_centre_41, msz hd hr, if_pos (by omega)]
    simp only [zjn, zlet]
    cases w with
    | false =>
      have := ih (b + 1) N false (by omega) (by omega)
      rw [bi_f] at this
      rw [bi_f, if_pos rfl, wr_id ⟨by omega, by omega⟩, show ((b : Int) + 1) = ((b + 1 : Nat) : Int) by omega, this]
      simp
    | true =>
      rw [bi_t, if_neg (by decide), mval2 hd hw hr ho h2 ha (by omega), zbd_some, mval2 hd hw hr ho h2 (by omega) ha, zbd_some, wr_id ⟨by omega, by omega⟩, show ((b : Int) + 1) = ((b + 1 : Nat) : Int) by omega]
      by_cases q : tb o (ix n 2 a b) = tb o (ix n 2 b a)
      · rw [if_pos q]
        have := ih (b + 1) N true (by omega) (by omega)
        rw [bi_t] at this
        rw [this]
        simp [cmF, q]
      · rw [if_neg q]
        have := ih (b + 1) N false (by omega) (by omega)
        rw [bi_f] at this
        rw [this]
        simp [cmF, q]
theorem mOut (hd : d < 10) (hw : WF n ar tb) (hr : RepM h 184 185 186 187 d n ar tb) (ho : o < ar.length) (h2 : ar.getD o 0 = 2) (hF : 8 ≤ F) {k : Int → HF → RO} : ∀ (m a N : Nat) (x : Int), rng x → a + m = n → m + 1 ≤ N → LX12_centre_24 F 181 (d : Int) (o : Int) k N x (a : Int) h = k (cbF (fun a b => tb o (ix n 2 a b)) n a x m) h := by
  have hn := hw.1.2
  intro m
  induction m with
  | zero =>
    intro a N x rx ha hN
    obtain ⟨N, rfl⟩ : ∃ M, N = M + 1 := ⟨N - 1, by omega⟩
    rw [LX12_centre_24, msz hd hr, if_neg (by omega)]
    rfl
  | succ m ih =>
    intro a N x rx ha hN
    obtain ⟨N, rfl⟩ : ∃ M, N = M + 1 := ⟨N - 1, by omega⟩
    rw [LX12_centre_24, msz hd hr, if_pos (by omega)]
    simp only [zjn, zlet]
    have := mIn (F := F) hd hw hr ho h2 (show a < n by omega) (x := x) (k := fun x93_4 x93_5 x93_6 h => if x93_6 = 0 then LX12_centre_24 F 181 (d : Int) (o : Int) k N (wor x93_4 0) (wr (x93_5 + 1)) h else LX12_centre_24 F 181 (d : Int) (o : Int) k N (wor x93_4 (wshl 1 x93_5)) (wr (x93_5 + 1)) h) n 0 F true (by omega) (by omega)
    rw [bi_t] at this
    refine this.trans ?_
    rw [wr_id ⟨by omega, by omega⟩, show ((a : Int) + 1) = ((a + 1 : Nat) : Int) by omega, Bool.true_and, wor_0 rx]
    simp only [cbF]
    by_cases q : cmF (fun a b => tb o (ix n 2 a b)) a 0 n = true
    · rw [q, bi_t, if_neg (by decide), if_pos rfl, ih (a + 1) N _ (rng_or _ _) (by omega) (by omega)]
    · have q' : cmF (fun a b => tb o (ix n 2 a b)) a 0 n = false := by simpa using q
      rw [q', bi_f, if_pos rfl, if_neg (by decide), ih (a + 1) N _ rx (by omega) (by omega)]
end CF
/-- the refusals of the calls that want an operation of two arguments: r is the same on both sides; 0: it is one -/
theorem binary {F d n : Nat} {y : Int} {ar : List Nat} {tb : Nat → Nat → Int} {h : HF} (hD : ∀ d, d < 8 → DR h d) (hd : d < 8) (q : rfs h (d : Int) = 0) (hw : WF n ar tb) (hc : RepC h (117 + 4 * d) n ar tb) (hm : RepM h 184 185 186 187 d n ar tb) : ∃ r : Int, fX11_refuseBinary F 0 (d : Int) y h = some (r, h) ∧ (∀ h', RepM h' 184 185 186 187 d n ar tb → rfs h' (d : Int) = 0 → fX12_refuseTwo F 181 (d : Int) y h' = some (r, h')) ∧ (r = 0 → ∃ o : Nat, y = (o : Int) ∧ o < ar.length ∧ ar.getD o 0 = 2) := by
  unfold fX11_refuseBinary fX12_refuseTwo
  rw [refuseOp_c hD hd q hc, zbd_some]
  simp only [zjn]
  by_cases q2 : 0 ≤ y ∧ y < (ar.length : Int)
  · obtain ⟨o, rfl⟩ : ∃ o : Nat, y = (o : Int) := ⟨y.toNat, by omega⟩
    have ho : o < ar.length := by omega
    have hl := hw.2.1
    obtain ⟨-, k1, -, -, -, -⟩ := zl_0 (117 + 4 * d) (kt_drw d hd)
    rw [if_pos q2, if_pos (show (0 : Int) = 0 from rfl), drw_at hd, zrd_ok (a := 117 + 4 * d + 1) ⟨by omega, by rw [k1]; omega⟩, Int.toNat_natCast, hc.2.2.2.1 o ho]
    by_cases q5 : ((ar.getD o 0 : Nat) : Int) = 2
    · rw [if_pos q5]
      refine ⟨0, rfl, fun h' hm' qr => ?_, fun _ => ⟨o, rfl, ho, by omega⟩⟩
      rw [refuse_m, zbd_some, if_pos qr, isOp_m (by omega) hm', zbd_some, bl_pos q2, if_neg (show ¬ (1 : Int) = 0 by decide), marity_eq (by omega) hw hm' ho, zbd_some, if_pos q5]
    · rw [if_neg q5]
      refine ⟨-12, rfl, fun h' hm' qr => ?_, fun z => absurd z (by decide)⟩
      rw [refuse_m, zbd_some, if_pos qr, isOp_m (by omega) hm', zbd_some, bl_pos q2, if_neg (show ¬ (1 : Int) = 0 by decide), marity_eq (by omega) hw hm' ho, zbd_some, if_neg q5]
  · rw [if_neg q2, if_neg (show ¬ (-3 : Int) = 0 by decide)]
    refine ⟨-3, rfl, fun h' hm' qr => ?_, fun z => absurd z (by decide)⟩
    rw [refuse_m, zbd_some, if_pos qr, isOp_m (by omega) hm', zbd_some, bl_neg q2, if_pos (show (0 : Int) = 0 from rfl)]
theorem binary_no {F : Nat} {x y : Int} {h : HF} (hD : ∀ d, d < 8 → DR h d) (q : ¬ rfs h x = 0) : fX11_refuseBinary F 0 x y h = some (rfs h x, h) ∧ ∀ h', rfs h' x = rfs h x → fX12_refuseTwo F 181 x y h' = some (rfs h x, h') := by
  unfold fX11_refuseBinary fX11_refuseOperation fX12_refuseTwo
  refine ⟨by rw [refuse_c hD, zbd_some, if_neg q, zbd_some, if_neg q], fun h' e => ?_⟩
  simp only [zjn]
  rw [refuse_m, zbd_some, e, if_neg q]
theorem ps_centre {I5 I6 : HF → Prop} {F : Nat} (hF : 8 ≤ F) : PS_centre F (InvP I4d I5 I6) := by
  intro h a1 a2 hI _ _
  have hI' := Inv_thrown hI
  have hD : ∀ d, d < 8 → DR h d := fun d hd => I4d_get hI.2.2.2.1 hd
  unfold fX11_centre fX12_centre fX0_centreBits
  simp only [zjn, zpf]
  by_cases q : rfs h a1 = 0
  · obtain ⟨d, n, ar, tb, rfl, hd, hw, hc, hm⟩ := held hD q
    have hm' := RepM_thrown hm
    obtain ⟨r, e1, e2, e3⟩ := binary (F := F) (y := a2) hD hd q hw hc hm
    have e2 := e2 _ hm' (by rw [rfs_thrown]; exact q)
    have hn := hw.1.2
    by_cases q0 : r = 0
    · obtain ⟨o, rfl, ho, h2⟩ := e3 q0
      refine ⟨cbF (fun a b => tb o (ix n 2 a b)) n 0 0 n, h, stp h 181 0 0, ?_, ?_, hI'⟩
      · rw [e1, zbd_some, if_pos q0, drw_at hd]
        have := cOut (F := F) (kt_drw d hd) hw hc ho h2 hF (k := fun x h => some (x, h)) n 0 F 0 (by omega) (by omega)
        refine (congrArg (fun z => zbd z fun r3 h => some (r3, h)) this).trans ?_
        rfl
      · rw [e2, zbd_some, if_pos q0]
        exact mOut (F := F) (by omega) hw hm' ho h2 hF (k := fun x h => some (x, h)) n 0 F 0 rng_0 (by omega) (by omega)
    · refine ⟨r, h, stp h 181 0 0, ?_, ?_, hI'⟩
      · rw [e1, zbd_some, if_neg q0]
      · rw [e2, zbd_some, if_neg q0]
  · obtain ⟨e1, e2⟩ := binary_no (F := F) (y := a2) hD q
    refine ⟨rfs h a1, h, stp h 181 0 0, ?_, ?_, hI'⟩
    · rw [e1, zbd_some, if_neg q]
    · rw [e2 _ rfs_thrown, zbd_some, if_neg q]
