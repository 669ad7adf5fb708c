theorem dX11_traits_0 : decode cX11_traits 0 = .ok (.aload_n 0, 1) := by decide +kernel
theorem dX11_traits_1 : decode cX11_traits 1 = .ok (.iload_n 1, 1) := by decide +kernel
theorem dX11_traits_2 : decode cX11_traits 2 = .ok (.iload_n 2, 1) := by decide +kernel
theorem dX11_traits_3 : decode cX11_traits 3 = .ok (.invokevirtual 169, 3) := by decide +kernel
theorem dX11_traits_6 : decode cX11_traits 6 = .ok (.istore_n 3, 1) := by decide +kernel
theorem dX11_traits_7 : decode cX11_traits 7 = .ok (.iload_n 3, 1) := by decide +kernel
theorem dX11_traits_8 : decode cX11_traits 8 = .ok (.ifCond .eq 7, 3) := by decide +kernel
theorem dX11_traits_11 : decode cX11_traits 11 = .ok (.iload_n 3, 1) := by decide +kernel
theorem dX11_traits_12 : decode cX11_traits 12 = .ok (.goto 13, 3) := by decide +kernel
theorem dX11_traits_15 : decode cX11_traits 15 = .ok (.aload_n 0, 1) := by decide +kernel
theorem dX11_traits_16 : decode cX11_traits 16 = .ok (.getfield 23, 3) := by decide +kernel
theorem dX11_traits_19 : decode cX11_traits 19 = .ok (.iload_n 1, 1) := by decide +kernel
theorem dX11_traits_20 : decode cX11_traits 20 = .ok (.aaload, 1) := by decide +kernel
theorem dX11_traits_21 : decode cX11_traits 21 = .ok (.iload_n 2, 1) := by decide +kernel
theorem dX11_traits_22 : decode cX11_traits 22 = .ok (.invokevirtual 208, 3) := by decide +kernel
theorem dX11_traits_25 : decode cX11_traits 25 = .ok (.ireturn, 1) := by decide +kernel
def fX11_traits (F : Nat) (a0 : Nat) (a1 : Int) (a2 : Int) (h : HF) : RO :=
  zbd (fX11_refuseBinary F a0 a1 a2 h) fun r1 h =>
  zjn (fun (y25_0 : Int) (h : HF) => (
    some (y25_0, h)
  )) fun j25 =>
  if r1 = 0 then (
    zrs (a0 + 5) a1 fun x2 =>
    zbd (fX0_traitSum F x2 a2 h) fun r3 h =>
    j25 r3 h
  ) else (
    j25 r1 h
  )
set_option maxHeartbeats 4000000 in
set_option maxRecDepth 100000 in
theorem mX11_traits (F : Nat) (l : Launch) (g : zG) (B : Nat) (h : HF) (a0 : Nat) (a1 : Int) (a2 : Int) (ra0 : kt a0 = 14) (ra1 : rng a1) (ra2 : rng a2) : CTi l g B yX11_traits cX11_traits 4 (some .int) 4 [.ref (B + a0), .int (ii a1), .int (ii a2)] h (fX11_traits F a0 a1 a2 h) := by
  refine z_enterI (by decide) rfl (Nat.le_of_ble_eq_true rfl) ?_
  intro p e s m args below meth c ls o Q cx hp hl hf hQ
  have hl : lv_has ls 4 [(0, .ref (B + a0)), (1, .int (ii a1)), (2, .int (ii a2))] := hl
  unfold fX11_traits at hf
  refine lv_aload_n cx.1 cx.2.1 dX11_traits_0 rfl (lv_at hl 0 rfl) ?_
  refine lv_iload_n cx.1 cx.2.1 dX11_traits_1 rfl (lv_at hl 1 rfl) ?_
  refine lv_iload_n cx.1 cx.2.1 dX11_traits_2 rfl (lv_at hl 2 rfl) ?_
  refine z_ci cx hp (fun o' hx => zrunV (n := 4) (As := [.int (ii a1), .int (ii a2)]) (rest := []) cx hp (mX11_refuseBinary F l g B h a0 a1 a2 ra0 ra1 ra2 o' hx) 11 ra0 (by decide) rfl vw_X11_refuseBinary ml_X11_169 (by decide) rfl hl.1 rfl (Nat.le_of_ble_eq_true rfl) dX11_traits_3) hf (fun r1 h H locs rr1 hp hf => ?_)
  refine lv_istore_n (lv' := [(3, .int (ii r1)), (0, .ref (B + a0)), (1, .int (ii a1)), (2, .int (ii a2))]) cx.1 cx.2.1 dX11_traits_6 rfl hl (by decide) rfl (fun ls hl => ?_)
  refine lv_iload_n cx.1 cx.2.1 dX11_traits_7 rfl (lv_at hl 0 rfl) ?_
  refine z_jn hf (fun j => ∀ (y25_0 : Int) (h : HF) (H : Heap) (locs : List Loc) (ls : Array Slot), rng y25_0 → Hp g B s h H locs → lv_has ls 4 [] → j y25_0 h = some o → W p l e (rmn 4) s m args below meth c H locs 0 0 Q (F0 m 25 ls [.int (ii y25_0)])) ?_ (fun j25 hj25 hf => ?_)
  · intro y25_0 h H locs ls ry25_0 hp hl hf
    rw [hQ]; exact z_iret cx hp ry25_0 dX11_traits_25 hf
  refine z_if_eq cx rr1 (tgt := 15) dX11_traits_8 (by decide) hf (fun _ hf => ?_) (fun _ hf => ?_)
  · refine lv_aload_n cx.1 cx.2.1 dX11_traits_15 rfl (lv_at hl 1 rfl) ?_
    refine z_gets cx hp (T := TX11) 11 2 (a0 + 5) rfl zin_11 (by decide) (by decide) ra0 rfl fl_X11_23 dX11_traits_16 ?_
    refine lv_iload_n cx.1 cx.2.1 dX11_traits_19 rfl (lv_at hl 2 rfl) ?_
    refine z_aald1 cx hp (zs_11_2 a0 (kt_lt ra0 (by decide)) ra0) ra1 dX11_traits_20 hf (fun x2 rx2 hf => ?_)
    refine lv_iload_n cx.1 cx.2.1 dX11_traits_21 rfl (lv_at hl 3 rfl) ?_
    refine z_ci cx hp (fun o' hx => zrunV (n := 4) (As := [.int (ii a2)]) (rest := []) cx hp (mX0_traitSum F l g B h x2 a2 rx2 ra2 o' hx) 0 rx2 (by decide) rfl vw_X0_traitSum ml_X11_208 (by decide) rfl hl.1 rfl (Nat.le_of_ble_eq_true rfl) dX11_traits_22) hf (fun r3 h H locs rr3 hp hf => ?_)
    exact hj25 r3 h _ _ ls rr3 hp (lv_sub hl [] rfl) hf
  · refine lv_iload_n cx.1 cx.2.1 dX11_traits_11 rfl (lv_at hl 0 rfl) ?_
    refine lv_goto (tgt := 25) cx.1 cx.2.1 dX11_traits_12 (by decide) ?_
    exact hj25 r1 h _ _ ls rr1 hp (lv_sub hl [] rfl) hf
theorem dX11_fails_0 : decode cX11_fails 0 = .ok (.aload_n 0, 1) := by decide +kernel
theorem dX11_fails_1 : decode cX11_fails 1 = .ok (.iload_n 1, 1) := by decide +kernel
theorem dX11_fails_2 : decode cX11_fails 2 = .ok (.iload_n 2, 1) := by decide +kernel
theorem dX11_fails_3 : decode cX11_fails 3 = .ok (.iload_n 3, 1) := by decide +kernel
theorem dX11_fails_4 : decode cX11_fails 4 = .ok (.invokevirtual 234, 3) := by decide +kernel
theorem dX11_fails_7 : decode cX11_fails 7 = .ok (.istore 4, 2) := by decide +kernel
theorem dX11_fails_9 : decode cX11_fails 9 = .ok (.iload 4, 2) := by decide +kernel
theorem dX11_fails_11 : decode cX11_fails 11 = .ok (.ifCond .eq 6, 3) := by decide +kernel
theorem dX11_fails_14 : decode cX11_fails 14 = .ok (.iload 4, 2) := by decide +kernel
theorem dX11_fails_16 : decode cX11_fails 16 = .ok (.ireturn, 1) := by decide +kernel
theorem dX11_fails_17 : decode cX11_fails 17 = .ok (.aload_n 0, 1) := by decide +kernel
theorem dX11_fails_18 : decode cX11_fails 18 = .ok (.getfield 60, 3) := by decide +kernel
theorem dX11_fails_21 : decode cX11_fails 21 = .ok (.aload_n 0, 1) := by decide +kernel
theorem dX11_fails_22 : decode cX11_fails 22 = .ok (.getfield 23, 3) := by decide +kernel
theorem dX11_fails_25 : decode cX11_fails 25 = .ok (.iload_n 1, 1) := by decide +kernel
theorem dX11_fails_26 : decode cX11_fails 26 = .ok (.aaload, 1) := by decide +kernel
theorem dX11_fails_27 : decode cX11_fails 27 = .ok (.aload_n 0, 1) := by decide +kernel
theorem dX11_fails_28 : decode cX11_fails 28 = .ok (.getfield 41, 3) := by decide +kernel
theorem dX11_fails_31 : decode cX11_fails 31 = .ok (.iload_n 2, 1) := by decide +kernel
theorem dX11_fails_32 : decode cX11_fails 32 = .ok (.aaload, 1) := by decide +kernel
theorem dX11_fails_33 : decode cX11_fails 33 = .ok (.iload_n 3, 1) := by decide +kernel
theorem dX11_fails_34 : decode cX11_fails 34 = .ok (.iconst 0, 1) := by decide +kernel
theorem dX11_fails_35 : decode cX11_fails 35 = .ok (.invokevirtual 237, 3) := by decide +kernel
theorem dX11_fails_38 : decode cX11_fails 38 = .ok (.aload_n 0, 1) := by decide +kernel
theorem dX11_fails_39 : decode cX11_fails 39 = .ok (.getfield 60, 3) := by decide +kernel
theorem dX11_fails_42 : decode cX11_fails 42 = .ok (.getfield 241, 3) := by decide +kernel
theorem dX11_fails_45 : decode cX11_fails 45 = .ok (.ireturn, 1) := by decide +kernel
def fX11_fails (F : Nat) (a0 : Nat) (a1 : Int) (a2 : Int) (a3 : Int) (h : HF) : RO :=
  zbd (fX11_refuseLaw F a0 a1 a2 a3 h) fun r1 h =>
  if r1 = 0 then (
    zrs (a0 + 5) a1 fun x2 =>
    zrl h (a0 + 77) a2 fun x3 =>
    zbd (fX5_tryLaw F (a0 + 91) x2 x3 a3 0 h) fun _ h =>
    zgf h (a0 + 91) 0 fun x5 =>
    some (x5, h)
  ) else (
    some (r1, h)
  )
set_option maxHeartbeats 4000000 in
set_option maxRecDepth 100000 in
theorem mX11_fails (F : Nat) (l : Launch) (g : zG) (B : Nat) (h : HF) (a0 : Nat) (a1 : Int) (a2 : Int) (a3 : Int) (ra0 : kt a0 = 14) (ra1 : rng a1) (ra2 : rng a2) (ra3 : rng a3) : CTi l g B yX11_fails cX11_fails 5 (some .int) 4 [.ref (B + a0), .int (ii a1), .int (ii a2), .int (ii a3)] h (fX11_fails F a0 a1 a2 a3 h) := by
  refine z_enterI (by decide) rfl (Nat.le_of_ble_eq_true rfl) ?_
  intro p e s m args below meth c ls o Q cx hp hl hf hQ
  have hl : lv_has ls 5 [(0, .ref (B + a0)), (1, .int (ii a1)), (2, .int (ii a2)), (3, .int (ii a3))] := hl
  unfold fX11_fails at hf
  refine lv_aload_n cx.1 cx.2.1 dX11_fails_0 rfl (lv_at hl 0 rfl) ?_
  refine lv_iload_n cx.1 cx.2.1 dX11_fails_1 rfl (lv_at hl 1 rfl) ?_
  refine lv_iload_n cx.1 cx.2.1 dX11_fails_2 rfl (lv_at hl 2 rfl) ?_
  refine lv_iload_n cx.1 cx.2.1 dX11_fails_3 rfl (lv_at hl 3 rfl) ?_
  refine z_ci cx hp (fun o' hx => zrunV (n := 4) (As := [.int (ii a1), .int (ii a2), .int (ii a3)]) (rest := []) cx hp (mX11_refuseLaw F l g B h a0 a1 a2 a3 ra0 ra1 ra2 ra3 o' hx) 11 ra0 (by decide) rfl vw_X11_refuseLaw ml_X11_234 (by decide) rfl hl.1 rfl (Nat.le_of_ble_eq_true rfl) dX11_fails_4) hf (fun r1 h H locs rr1 hp hf => ?_)
  refine lv_istore (lv' := [(4, .int (ii r1)), (0, .ref (B + a0)), (1, .int (ii a1)), (2, .int (ii a2)), (3, .int (ii a3))]) cx.1 cx.2.1 dX11_fails_7 hl (by decide) rfl (fun ls hl => ?_)
  refine lv_iload cx.1 cx.2.1 dX11_fails_9 (lv_at hl 0 rfl) ?_
  refine z_if_eq cx rr1 (tgt := 17) dX11_fails_11 (by decide) hf (fun _ hf => ?_) (fun _ hf => ?_)
  · refine lv_aload_n cx.1 cx.2.1 dX11_fails_17 rfl (lv_at hl 1 rfl) ?_
    refine z_gets cx hp (T := TX11) 11 8 (a0 + 91) rfl zin_11 (by decide) (by decide) ra0 rfl fl_X11_60 dX11_fails_18 ?_
    refine lv_aload_n cx.1 cx.2.1 dX11_fails_21 rfl (lv_at hl 1 rfl) ?_
    refine z_gets cx hp (T := TX11) 11 2 (a0 + 5) rfl zin_11 (by decide) (by decide) ra0 rfl fl_X11_23 dX11_fails_22 ?_
    refine lv_iload_n cx.1 cx.2.1 dX11_fails_25 rfl (lv_at hl 2 rfl) ?_
    refine z_aald1 cx hp (zs_11_2 a0 (kt_lt ra0 (by decide)) ra0) ra1 dX11_fails_26 hf (fun x2 rx2 hf => ?_)
    refine lv_aload_n cx.1 cx.2.1 dX11_fails_27 rfl (lv_at hl 1 rfl) ?_
    refine z_gets cx hp (T := TX11) 11 5 (a0 + 77) rfl zin_11 (by decide) (by decide) ra0 rfl fl_X11_41 dX11_fails_28 ?_
    refine lv_iload_n cx.1 cx.2.1 dX11_fails_31 rfl (lv_at hl 3 rfl) ?_
    refine z_aald2 cx hp (zs_11_5 a0 (kt_lt ra0 (by decide)) ra0) ra2 dX11_fails_32 hf (fun x3 rx3 hf => ?_)
    refine lv_iload_n cx.1 cx.2.1 dX11_fails_33 rfl (lv_at hl 4 rfl) ?_
    refine z_iconst cx dX11_fails_34 ?_
    refine z_cv cx hp (fun o' hx => zrunV (n := 4) (As := [.ref (B + x2), .ref (B + x3), .int (ii a3), .int (ii 0)]) (rest := []) cx hp (mX5_tryLaw F l g B h (a0 + 91) x2 x3 a3 0 (zs_11_8 a0 (kt_lt ra0 (by decide)) ra0) rx2 rx3 ra3 (by decide) o' hx) 5 (zs_11_8 a0 (kt_lt ra0 (by decide)) ra0) (by decide) rfl vw_X5_tryLaw ml_X11_237 (by decide) rfl hl.1 rfl (Nat.le_of_ble_eq_true rfl) dX11_fails_35) hf (fun _ h H locs hp hf => ?_)
    refine lv_aload_n cx.1 cx.2.1 dX11_fails_38 rfl (lv_at hl 1 rfl) ?_
    refine z_gets cx hp (T := TX11) 11 8 (a0 + 91) rfl zin_11 (by decide) (by decide) ra0 rfl fl_X11_60 dX11_fails_39 ?_
    refine z_geti cx hp (T := TX5) 5 0 rfl zin_5 (by decide) (by decide) (zs_11_8 a0 (kt_lt ra0 (by decide)) ra0) rfl fl_X11_241 dX11_fails_42 hf (fun x5 rx5 hf => ?_)
    rw [hQ]; exact z_iret cx hp rx5 dX11_fails_45 hf
  · refine lv_iload cx.1 cx.2.1 dX11_fails_14 (lv_at hl 0 rfl) ?_
    rw [hQ]; exact z_iret cx hp rr1 dX11_fails_16 hf
theorem dX11_witness_0 : decode cX11_witness 0 = .ok (.aload_n 0, 1) := by decide +kernel
theorem dX11_witness_1 : decode cX11_witness 1 = .ok (.iload_n 1, 1) := by decide +kernel
theorem dX11_witness_2 : decode cX11_witness 2 = .ok (.iload_n 2, 1) := by decide +kernel
theorem dX11_witness_3 : decode cX11_witness 3 = .ok (.iload_n 3, 1) := by decide +kernel
theorem dX11_witness_4 : decode cX11_witness 4 = .ok (.invokevirtual 234, 3) := by decide +kernel
theorem dX11_witness_7 : decode cX11_witness 7 = .ok (.istore 4, 2) := by decide +kernel
theorem dX11_witness_9 : decode cX11_witness 9 = .ok (.iload 4, 2) := by decide +kernel
theorem dX11_witness_11 : decode cX11_witness 11 = .ok (.ifCond .eq 6, 3) := by decide +kernel
theorem dX11_witness_14 : decode cX11_witness 14 = .ok (.iload 4, 2) := by decide +kernel
theorem dX11_witness_16 : decode cX11_witness 16 = .ok (.ireturn, 1) := by decide +kernel
theorem dX11_witness_17 : decode cX11_witness 17 = .ok (.aload_n 0, 1) := by decide +kernel
theorem dX11_witness_18 : decode cX11_witness 18 = .ok (.getfield 60, 3) := by decide +kernel
theorem dX11_witness_21 : decode cX11_witness 21 = .ok (.aload_n 0, 1) := by decide +kernel
theorem dX11_witness_22 : decode cX11_witness 22 = .ok (.getfield 23, 3) := by decide +kernel
theorem dX11_witness_25 : decode cX11_witness 25 = .ok (.iload_n 1, 1) := by decide +kernel
theorem dX11_witness_26 : decode cX11_witness 26 = .ok (.aaload, 1) := by decide +kernel
theorem dX11_witness_27 : decode cX11_witness 27 = .ok (.aload_n 0, 1) := by decide +kernel
theorem dX11_witness_28 : decode cX11_witness 28 = .ok (.getfield 41, 3) := by decide +kernel
theorem dX11_witness_31 : decode cX11_witness 31 = .ok (.iload_n 2, 1) := by decide +kernel
theorem dX11_witness_32 : decode cX11_witness 32 = .ok (.aaload, 1) := by decide +kernel
theorem dX11_witness_33 : decode cX11_witness 33 = .ok (.iload_n 3, 1) := by decide +kernel
theorem dX11_witness_34 : decode cX11_witness 34 = .ok (.iconst 1, 1) := by decide +kernel
theorem dX11_witness_35 : decode cX11_witness 35 = .ok (.invokevirtual 237, 3) := by decide +kernel
theorem dX11_witness_38 : decode cX11_witness 38 = .ok (.aload_n 0, 1) := by decide +kernel
theorem dX11_witness_39 : decode cX11_witness 39 = .ok (.getfield 60, 3) := by decide +kernel
theorem dX11_witness_42 : decode cX11_witness 42 = .ok (.getfield 244, 3) := by decide +kernel
theorem dX11_witness_45 : decode cX11_witness 45 = .ok (.ireturn, 1) := by decide +kernel
def fX11_witness (F : Nat) (a0 : Nat) (a1 : Int) (a2 : Int) (a3 : Int) (h : HF) : RO :=
  zbd (fX11_refuseLaw F a0 a1 a2 a3 h) fun r1 h =>
  if r1 = 0 then (
    zrs (a0 + 5) a1 fun x2 =>
    zrl h (a0 + 77) a2 fun x3 =>
    zbd (fX5_tryLaw F (a0 + 91) x2 x3 a3 1 h) fun _ h =>
    zgf h (a0 + 91) 1 fun x5 =>
    some (x5, h)
  ) else (
    some (r1, h)
  )
set_option maxHeartbeats 4000000 in
set_option maxRecDepth 100000 in
theorem mX11_witness (F : Nat) (l : Launch) (g : zG) (B : Nat) (h : HF) (a0 : Nat) (a1 : Int) (a2 : Int) (a3 : Int) (ra0 : kt a0 = 14) (ra1 : rng a1) (ra2 : rng a2) (ra3 : rng a3) : CTi l g B yX11_witness cX11_witness 5 (some .int) 4 [.ref (B + a0), .int (ii a1), .int (ii a2), .int (ii a3)] h (fX11_witness F a0 a1 a2 a3 h) := by
  refine z_enterI (by decide) rfl (Nat.le_of_ble_eq_true rfl) ?_
  intro p e s m args below meth c ls o Q cx hp hl hf hQ
  have hl : lv_has ls 5 [(0, .ref (B + a0)), (1, .int (ii a1)), (2, .int (ii a2)), (3, .int (ii a3))] := hl
  unfold fX11_witness at hf
  refine lv_aload_n cx.1 cx.2.1 dX11_witness_0 rfl (lv_at hl 0 rfl) ?_
  refine lv_iload_n cx.1 cx.2.1 dX11_witness_1 rfl (lv_at hl 1 rfl) ?_
  refine lv_iload_n cx.1 cx.2.1 dX11_witness_2 rfl (lv_at hl 2 rfl) ?_
  refine lv_iload_n cx.1 cx.2.1 dX11_witness_3 rfl (lv_at hl 3 rfl) ?_
  refine z_ci cx hp (fun o' hx => zrunV (n := 4) (As := [.int (ii a1), .int (ii a2), .int (ii a3)]) (rest := []) cx hp (mX11_refuseLaw F l g B h a0 a1 a2 a3 ra0 ra1 ra2 ra3 o' hx) 11 ra0 (by decide) rfl vw_X11_refuseLaw ml_X11_234 (by decide) rfl hl.1 rfl (Nat.le_of_ble_eq_true rfl) dX11_witness_4) hf (fun r1 h H locs rr1 hp hf => ?_)
  refine lv_istore (lv' := [(4, .int (ii r1)), (0, .ref (B + a0)), (1, .int (ii a1)), (2, .int (ii a2)), (3, .int (ii a3))]) cx.1 cx.2.1 dX11_witness_7 hl (by decide) rfl (fun ls hl => ?_)
  refine lv_iload cx.1 cx.2.1 dX11_witness_9 (lv_at hl 0 rfl) ?_
  refine z_if_eq cx rr1 (tgt := 17) dX11_witness_11 (by decide) hf (fun _ hf => ?_) (fun _ hf => ?_)
  · refine lv_aload_n cx.1 cx.2.1 dX11_witness_17 rfl (lv_at hl 1 rfl) ?_
    refine z_gets cx hp (T := TX11) 11 8 (a0 + 91) rfl zin_11 (by decide) (by decide) ra0 rfl fl_X11_60 dX11_witness_18 ?_
    refine lv_aload_n cx.1 cx.2.1 dX11_witness_21 rfl (lv_at hl 1 rfl) ?_
    refine z_gets cx hp (T := TX11) 11 2 (a0 + 5) rfl zin_11 (by decide) (by decide) ra0 rfl fl_X11_23 dX11_witness_22 ?_
    refine lv_iload_n cx.1 cx.2.1 dX11_witness_25 rfl (lv_at hl 2 rfl) ?_
    refine z_aald1 cx hp (zs_11_2 a0 (kt_lt ra0 (by decide)) ra0) ra1 dX11_witness_26 hf (fun x2 rx2 hf => ?_)
    refine lv_aload_n cx.1 cx.2.1 dX11_witness_27 rfl (lv_at hl 1 rfl) ?_
    refine z_gets cx hp (T := TX11) 11 5 (a0 + 77) rfl zin_11 (by decide) (by decide) ra0 rfl fl_X11_41 dX11_witness_28 ?_
    refine lv_iload_n cx.1 cx.2.1 dX11_witness_31 rfl (lv_at hl 3 rfl) ?_
    refine z_aald2 cx hp (zs_11_5 a0 (kt_lt ra0 (by decide)) ra0) ra2 dX11_witness_32 hf (fun x3 rx3 hf => ?_)
    refine lv_iload_n cx.1 cx.2.1 dX11_witness_33 rfl (lv_at hl 4 rfl) ?_
    refine z_iconst cx dX11_witness_34 ?_
    refine z_cv cx hp (fun o' hx => zrunV (n := 4) (As := [.ref (B + x2), .ref (B + x3), .int (ii a3), .int (ii 1)]) (rest := []) cx hp (mX5_tryLaw F l g B h (a0 + 91) x2 x3 a3 1 (zs_11_8 a0 (kt_lt ra0 (by decide)) ra0) rx2 rx3 ra3 (by decide) o' hx) 5 (zs_11_8 a0 (kt_lt ra0 (by decide)) ra0) (by decide) rfl vw_X5_tryLaw ml_X11_237 (by decide) rfl hl.1 rfl (Nat.le_of_ble_eq_true rfl) dX11_witness_35) hf (fun _ h H locs hp hf => ?_)
    refine lv_aload_n cx.1 cx.2.1 dX11_witness_38 rfl (lv_at hl 1 rfl) ?_
    refine z_gets cx hp (T := TX11) 11 8 (a0 + 91) rfl zin_11 (by decide) (by decide) ra0 rfl fl_X11_60 dX11_witness_39 ?_
    refine z_geti cx hp (T := TX5) 5 1 rfl zin_5 (by decide) (by decide) (zs_11_8 a0 (kt_lt ra0 (by decide)) ra0) rfl fl_X11_244 dX11_witness_42 hf (fun x5 rx5 hf => ?_)
    rw [hQ]; exact z_iret cx hp rx5 dX11_witness_45 hf
  · refine lv_iload cx.1 cx.2.1 dX11_witness_14 (lv_at hl 0 rfl) ?_
    rw [hQ]; exact z_iret cx hp rr1 dX11_witness_16 hf
theorem dX11_span_0 : decode cX11_span 0 = .ok (.aload_n 0, 1) := by decide +kernel
theorem dX11_span_1 : decode cX11_span 1 = .ok (.iload_n 1, 1) := by decide +kernel
theorem dX11_span_2 : decode cX11_span 2 = .ok (.invokevirtual 175, 3) := by decide +kernel
theorem dX11_span_5 : decode cX11_span 5 = .ok (.istore_n 3, 1) := by decide +kernel
theorem dX11_span_6 : decode cX11_span 6 = .ok (.iload_n 3, 1) := by decide +kernel
theorem dX11_span_7 : decode cX11_span 7 = .ok (.ifCond .eq 5, 3) := by decide +kernel
theorem dX11_span_10 : decode cX11_span 10 = .ok (.iload_n 3, 1) := by decide +kernel
theorem dX11_span_11 : decode cX11_span 11 = .ok (.ireturn, 1) := by decide +kernel
theorem dX11_span_12 : decode cX11_span 12 = .ok (.aload_n 0, 1) := by decide +kernel
theorem dX11_span_13 : decode cX11_span 13 = .ok (.getfield 23, 3) := by decide +kernel
theorem dX11_span_16 : decode cX11_span 16 = .ok (.iload_n 1, 1) := by decide +kernel
theorem dX11_span_17 : decode cX11_span 17 = .ok (.aaload, 1) := by decide +kernel
theorem dX11_span_18 : decode cX11_span 18 = .ok (.astore 4, 2) := by decide +kernel
theorem dX11_span_20 : decode cX11_span 20 = .ok (.iload_n 2, 1) := by decide +kernel
theorem dX11_span_21 : decode cX11_span 21 = .ok (.ifCond .lt 12, 3) := by decide +kernel
theorem dX11_span_24 : decode cX11_span 24 = .ok (.iload_n 2, 1) := by decide +kernel
theorem dX11_span_25 : decode cX11_span 25 = .ok (.aload 4, 2) := by decide +kernel
theorem dX11_span_27 : decode cX11_span 27 = .ok (.invokevirtual 247, 3) := by decide +kernel
theorem dX11_span_30 : decode cX11_span 30 = .ok (.if_icmp .le 8, 3) := by decide +kernel
theorem dX11_span_38 : decode cX11_span 38 = .ok (.aload 4, 2) := by decide +kernel
theorem dX11_span_40 : decode cX11_span 40 = .ok (.iload_n 2, 1) := by decide +kernel
theorem dX11_span_41 : decode cX11_span 41 = .ok (.invokevirtual 250, 3) := by decide +kernel
theorem dX11_span_33 : decode cX11_span 33 = .ok (.bipush (-3), 2) := by decide +kernel
theorem dX11_span_35 : decode cX11_span 35 = .ok (.goto 9, 3) := by decide +kernel
theorem dX11_span_44 : decode cX11_span 44 = .ok (.ireturn, 1) := by decide +kernel
def fX11_span (F : Nat) (a0 : Nat) (a1 : Int) (a2 : Int) (h : HF) : RO :=
  zbd (fX11_refuseDrawer F a0 a1 h) fun r1 h =>
  if r1 = 0 then (
    zrs (a0 + 5) a1 fun x2 =>
    zjn (fun (y44_0 : Int) (h : HF) => (
      some (y44_0, h)
    )) fun j44 =>
    zjn (fun  (h : HF) => (
      j44 (-3) h
    )) fun j33 =>
    if a2 < 0 then (
      j33  h
    ) else (
      zbd (fX0_allBits F x2 h) fun r3 h =>
      if r3 < a2 then (
        j33  h
      ) else (
        zbd (fX0_closure F x2 a2 h) fun r4 h =>
        j44 r4 h
      )
    )
  ) else (
    some (r1, h)
  )
set_option maxHeartbeats 4000000 in
set_option maxRecDepth 100000 in
theorem mX11_span (F : Nat) (l : Launch) (g : zG) (B : Nat) (h : HF) (a0 : Nat) (a1 : Int) (a2 : Int) (ra0 : kt a0 = 14) (ra1 : rng a1) (ra2 : rng a2) : CTi l g B yX11_span cX11_span 5 (some .int) 5 [.ref (B + a0), .int (ii a1), .int (ii a2)] h (fX11_span F a0 a1 a2 h) := by
  refine z_enterI (by decide) rfl (Nat.le_of_ble_eq_true rfl) ?_
  intro p e s m args below meth c ls o Q cx hp hl hf hQ
  have hl : lv_has ls 5 [(0, .ref (B + a0)), (1, .int (ii a1)), (2, .int (ii a2))] := hl
  unfold fX11_span at hf
  refine lv_aload_n cx.1 cx.2.1 dX11_span_0 rfl (lv_at hl 0 rfl) ?_
  refine lv_iload_n cx.1 cx.2.1 dX11_span_1 rfl (lv_at hl 1 rfl) ?_
  refine z_ci cx hp (fun o' hx => zrunV (n := 5) (As := [.int (ii a1)]) (rest := []) cx hp (mX11_refuseDrawer F l g B h a0 a1 ra0 ra1 o' hx) 11 ra0 (by decide) rfl vw_X11_refuseDrawer ml_X11_175 (by decide) rfl hl.1 rfl (Nat.le_of_ble_eq_true rfl) dX11_span_2) hf (fun r1 h H locs rr1 hp hf => ?_)
  refine lv_istore_n (lv' := [(3, .int (ii r1)), (0, .ref (B + a0)), (1, .int (ii a1)), (2, .int (ii a2))]) cx.1 cx.2.1 dX11_span_5 rfl hl (by decide) rfl (fun ls hl => ?_)
  refine lv_iload_n cx.1 cx.2.1 dX11_span_6 rfl (lv_at hl 0 rfl) ?_
  refine z_if_eq cx rr1 (tgt := 12) dX11_span_7 (by decide) hf (fun _ hf => ?_) (fun _ hf => ?_)
  · refine lv_aload_n cx.1 cx.2.1 dX11_span_12 rfl (lv_at hl 1 rfl) ?_
    refine z_gets cx hp (T := TX11) 11 2 (a0 + 5) rfl zin_11 (by decide) (by decide) ra0 rfl fl_X11_23 dX11_span_13 ?_
    refine lv_iload_n cx.1 cx.2.1 dX11_span_16 rfl (lv_at hl 2 rfl) ?_
    refine z_aald1 cx hp (zs_11_2 a0 (kt_lt ra0 (by decide)) ra0) ra1 dX11_span_17 hf (fun x2 rx2 hf => ?_)
    refine lv_astore (lv' := [(4, .ref (B + x2)), (3, .int (ii r1)), (0, .ref (B + a0)), (1, .int (ii a1)), (2, .int (ii a2))]) cx.1 cx.2.1 dX11_span_18 hl (by decide) rfl (fun ls hl => ?_)
    refine lv_iload_n cx.1 cx.2.1 dX11_span_20 rfl (lv_at hl 4 rfl) ?_
    refine z_jn hf (fun j => ∀ (y44_0 : Int) (h : HF) (H : Heap) (locs : List Loc) (ls : Array Slot), rng y44_0 → Hp g B s h H locs → lv_has ls 5 [] → j y44_0 h = some o → W p l e (rmn 5) s m args below meth c H locs 0 0 Q (F0 m 44 ls [.int (ii y44_0)])) ?_ (fun j44 hj44 hf => ?_)
    · intro y44_0 h H locs ls ry44_0 hp hl hf
      rw [hQ]; exact z_iret cx hp ry44_0 dX11_span_44 hf
    refine z_jn hf (fun j => ∀  (h : HF) (H : Heap) (locs : List Loc) (ls : Array Slot), Hp g B s h H locs → lv_has ls 5 [] → j  h = some o → W p l e (rmn 5) s m args below meth c H locs 0 0 Q (F0 m 33 ls [])) ?_ (fun j33 hj33 hf => ?_)
    · intro  h H locs ls  hp hl hf
      refine z_bipush cx (by decide) dX11_span_33 ?_
      refine lv_goto (tgt := 44) cx.1 cx.2.1 dX11_span_35 (by decide) ?_
      exact hj44 (-3) h _ _ ls (by decide) hp (lv_sub hl [] rfl) hf
    refine z_if_lt cx ra2 (tgt := 33) dX11_span_21 (by decide) hf (fun _ hf => ?_) (fun _ hf => ?_)
    · exact hj33  h _ _ ls  hp (lv_sub hl [] rfl) hf
    · refine lv_iload_n cx.1 cx.2.1 dX11_span_24 rfl (lv_at hl 4 rfl) ?_
      refine lv_aload cx.1 cx.2.1 dX11_span_25 (lv_at hl 0 rfl) ?_
      refine z_ci cx hp (fun o' hx => zrunV (n := 5) (As := []) (rest := [.int (ii a2)]) cx hp (mX0_allBits F l g B h x2 rx2 o' hx) 0 rx2 (by decide) rfl vw_X0_allBits ml_X11_247 (by decide) rfl hl.1 rfl (Nat.le_of_ble_eq_true rfl) dX11_span_27) hf (fun r3 h H locs rr3 hp hf => ?_)
      refine z_icmp_le cx ra2 rr3 (tgt := 38) dX11_span_30 (by decide) hf (fun _ hf => ?_) (fun _ hf => ?_)
      · exact hj33  h _ _ ls  hp (lv_sub hl [] rfl) hf
      · refine lv_aload cx.1 cx.2.1 dX11_span_38 (lv_at hl 0 rfl) ?_
        refine lv_iload_n cx.1 cx.2.1 dX11_span_40 rfl (lv_at hl 4 rfl) ?_
        refine z_ci cx hp (fun o' hx => zrunV (n := 5) (As := [.int (ii a2)]) (rest := []) cx hp (mX0_closure F l g B h x2 a2 rx2 ra2 o' hx) 0 rx2 (by decide) rfl vw_X0_closure ml_X11_250 (by decide) rfl hl.1 rfl (Nat.le_of_ble_eq_true rfl) dX11_span_41) hf (fun r4 h H locs rr4 hp hf => ?_)
        exact hj44 r4 h _ _ ls rr4 hp (lv_sub hl [] rfl) hf
  · refine lv_iload_n cx.1 cx.2.1 dX11_span_10 rfl (lv_at hl 0 rfl) ?_
    rw [hQ]; exact z_iret cx hp rr1 dX11_span_11 hf
theorem dX11_part_0 : decode cX11_part 0 = .ok (.aload_n 0, 1) := by decide +kernel
theorem dX11_part_1 : decode cX11_part 1 = .ok (.iload_n 1, 1) := by decide +kernel
theorem dX11_part_2 : decode cX11_part 2 = .ok (.invokevirtual 175, 3) := by decide +kernel
theorem dX11_part_5 : decode cX11_part 5 = .ok (.istore_n 3, 1) := by decide +kernel
theorem dX11_part_6 : decode cX11_part 6 = .ok (.iload_n 3, 1) := by decide +kernel
theorem dX11_part_7 : decode cX11_part 7 = .ok (.ifCond .eq 5, 3) := by decide +kernel
theorem dX11_part_10 : decode cX11_part 10 = .ok (.iload_n 3, 1) := by decide +kernel
theorem dX11_part_11 : decode cX11_part 11 = .ok (.ireturn, 1) := by decide +kernel
theorem dX11_part_12 : decode cX11_part 12 = .ok (.aload_n 0, 1) := by decide +kernel
theorem dX11_part_13 : decode cX11_part 13 = .ok (.getfield 23, 3) := by decide +kernel
theorem dX11_part_16 : decode cX11_part 16 = .ok (.iload_n 1, 1) := by decide +kernel
theorem dX11_part_17 : decode cX11_part 17 = .ok (.aaload, 1) := by decide +kernel
theorem dX11_part_18 : decode cX11_part 18 = .ok (.astore 4, 2) := by decide +kernel
theorem dX11_part_20 : decode cX11_part 20 = .ok (.iload_n 2, 1) := by decide +kernel
theorem dX11_part_21 : decode cX11_part 21 = .ok (.iconst (-1), 1) := by decide +kernel
theorem dX11_part_22 : decode cX11_part 22 = .ok (.if_icmp .ne 9, 3) := by decide +kernel
theorem dX11_part_25 : decode cX11_part 25 = .ok (.aload 4, 2) := by decide +kernel
theorem dX11_part_27 : decode cX11_part 27 = .ok (.invokevirtual 253, 3) := by decide +kernel
theorem dX11_part_30 : decode cX11_part 30 = .ok (.ireturn, 1) := by decide +kernel
theorem dX11_part_31 : decode cX11_part 31 = .ok (.aload 4, 2) := by decide +kernel
theorem dX11_part_33 : decode cX11_part 33 = .ok (.iload_n 2, 1) := by decide +kernel
theorem dX11_part_34 : decode cX11_part 34 = .ok (.invokevirtual 256, 3) := by decide +kernel
theorem dX11_part_37 : decode cX11_part 37 = .ok (.istore 5, 2) := by decide +kernel
theorem dX11_part_39 : decode cX11_part 39 = .ok (.iload 5, 2) := by decide +kernel
theorem dX11_part_41 : decode cX11_part 41 = .ok (.iconst (-1), 1) := by decide +kernel
theorem dX11_part_42 : decode cX11_part 42 = .ok (.if_icmp .ne 8, 3) := by decide +kernel
theorem dX11_part_45 : decode cX11_part 45 = .ok (.bipush (-3), 2) := by decide +kernel
theorem dX11_part_47 : decode cX11_part 47 = .ok (.goto 5, 3) := by decide +kernel
theorem dX11_part_50 : decode cX11_part 50 = .ok (.iload 5, 2) := by decide +kernel
theorem dX11_part_52 : decode cX11_part 52 = .ok (.ireturn, 1) := by decide +kernel
def fX11_part (F : Nat) (a0 : Nat) (a1 : Int) (a2 : Int) (h : HF) : RO :=
  zbd (fX11_refuseDrawer F a0 a1 h) fun r1 h =>
  if r1 = 0 then (
    zrs (a0 + 5) a1 fun x2 =>
    if a2 = (-1) then (
      zbd (fX0_partCount F x2 h) fun r3 h =>
      some (r3, h)
    ) else (
      zbd (fX0_partBits F x2 a2 h) fun r4 h =>
      zjn (fun (y52_0 : Int) (h : HF) => (
        some (y52_0, h)
      )) fun j52 =>
      if r4 = (-1) then (
        j52 (-3) h
      ) else (
        j52 r4 h
      )
    )
  ) else (
    some (r1, h)
  )
set_option maxHeartbeats 4000000 in
set_option maxRecDepth 100000 in
theorem mX11_part (F : Nat) (l : Launch) (g : zG) (B : Nat) (h : HF) (a0 : Nat) (a1 : Int) (a2 : Int) (ra0 : kt a0 = 14) (ra1 : rng a1) (ra2 : rng a2) : CTi l g B yX11_part cX11_part 6 (some .int) 5 [.ref (B + a0), .int (ii a1), .int (ii a2)] h (fX11_part F a0 a1 a2 h) := by
  refine z_enterI (by decide) rfl (Nat.le_of_ble_eq_true rfl) ?_
  intro p e s m args below meth c ls o Q cx hp hl hf hQ
  have hl : lv_has ls 6 [(0, .ref (B + a0)), (1, .int (ii a1)), (2, .int (ii a2))] := hl
  unfold fX11_part at hf
  refine lv_aload_n cx.1 cx.2.1 dX11_part_0 rfl (lv_at hl 0 rfl) ?_
  refine lv_iload_n cx.1 cx.2.1 dX11_part_1 rfl (lv_at hl 1 rfl) ?_
  refine z_ci cx hp (fun o' hx => zrunV (n := 5) (As := [.int (ii a1)]) (rest := []) cx hp (mX11_refuseDrawer F l g B h a0 a1 ra0 ra1 o' hx) 11 ra0 (by decide) rfl vw_X11_refuseDrawer ml_X11_175 (by decide) rfl hl.1 rfl (Nat.le_of_ble_eq_true rfl) dX11_part_2) hf (fun r1 h H locs rr1 hp hf => ?_)
  refine lv_istore_n (lv' := [(3, .int (ii r1)), (0, .ref (B + a0)), (1, .int (ii a1)), (2, .int (ii a2))]) cx.1 cx.2.1 dX11_part_5 rfl hl (by decide) rfl (fun ls hl => ?_)
  refine lv_iload_n cx.1 cx.2.1 dX11_part_6 rfl (lv_at hl 0 rfl) ?_
  refine z_if_eq cx rr1 (tgt := 12) dX11_part_7 (by decide) hf (fun _ hf => ?_) (fun _ hf => ?_)
  · refine lv_aload_n cx.1 cx.2.1 dX11_part_12 rfl (lv_at hl 1 rfl) ?_
    refine z_gets cx hp (T := TX11) 11 2 (a0 + 5) rfl zin_11 (by decide) (by decide) ra0 rfl fl_X11_23 dX11_part_13 ?_
    refine lv_iload_n cx.1 cx.2.1 dX11_part_16 rfl (lv_at hl 2 rfl) ?_
    refine z_aald1 cx hp (zs_11_2 a0 (kt_lt ra0 (by decide)) ra0) ra1 dX11_part_17 hf (fun x2 rx2 hf => ?_)
    refine lv_astore (lv' := [(4, .ref (B + x2)), (3, .int (ii r1)), (0, .ref (B + a0)), (1, .int (ii a1)), (2, .int (ii a2))]) cx.1 cx.2.1 dX11_part_18 hl (by decide) rfl (fun ls hl => ?_)
    refine lv_iload_n cx.1 cx.2.1 dX11_part_20 rfl (lv_at hl 4 rfl) ?_
    refine z_iconst cx dX11_part_21 ?_
    refine z_icmp_ne cx ra2 (by decide) (tgt := 31) dX11_part_22 (by decide) hf (fun _ hf => ?_) (fun _ hf => ?_)
    · refine lv_aload cx.1 cx.2.1 dX11_part_25 (lv_at hl 0 rfl) ?_
      refine z_ci cx hp (fun o' hx => zrunV (n := 5) (As := []) (rest := []) cx hp (mX0_partCount F l g B h x2 rx2 o' hx) 0 rx2 (by decide) rfl vw_X0_partCount ml_X11_253 (by decide) rfl hl.1 rfl (Nat.le_of_ble_eq_true rfl) dX11_part_27) hf (fun r3 h H locs rr3 hp hf => ?_)
      rw [hQ]; exact z_iret cx hp rr3 dX11_part_30 hf
    · refine lv_aload cx.1 cx.2.1 dX11_part_31 (lv_at hl 0 rfl) ?_
      refine lv_iload_n cx.1 cx.2.1 dX11_part_33 rfl (lv_at hl 4 rfl) ?_
      refine z_ci cx hp (fun o' hx => zrunV (n := 5) (As := [.int (ii a2)]) (rest := []) cx hp (mX0_partBits F l g B h x2 a2 rx2 ra2 o' hx) 0 rx2 (by decide) rfl vw_X0_partBits ml_X11_256 (by decide) rfl hl.1 rfl (Nat.le_of_ble_eq_true rfl) dX11_part_34) hf (fun r4 h H locs rr4 hp hf => ?_)
      refine lv_istore (lv' := [(5, .int (ii r4)), (4, .ref (B + x2)), (3, .int (ii r1)), (0, .ref (B + a0)), (1, .int (ii a1)), (2, .int (ii a2))]) cx.1 cx.2.1 dX11_part_37 hl (by decide) rfl (fun ls hl => ?_)
      refine lv_iload cx.1 cx.2.1 dX11_part_39 (lv_at hl 0 rfl) ?_
      refine z_iconst cx dX11_part_41 ?_
      refine z_jn hf (fun j => ∀ (y52_0 : Int) (h : HF) (H : Heap) (locs : List Loc) (ls : Array Slot), rng y52_0 → Hp g B s h H locs → lv_has ls 6 [] → j y52_0 h = some o → W p l e (rmn 5) s m args below meth c H locs 0 0 Q (F0 m 52 ls [.int (ii y52_0)])) ?_ (fun j52 hj52 hf => ?_)
      · intro y52_0 h H locs ls ry52_0 hp hl hf
        rw [hQ]; exact z_iret cx hp ry52_0 dX11_part_52 hf
      refine z_icmp_ne cx rr4 (by decide) (tgt := 50) dX11_part_42 (by decide) hf (fun _ hf => ?_) (fun _ hf => ?_)
      · refine z_bipush cx (by decide) dX11_part_45 ?_
        refine lv_goto (tgt := 52) cx.1 cx.2.1 dX11_part_47 (by decide) ?_
        exact hj52 (-3) h _ _ ls (by decide) hp (lv_sub hl [] rfl) hf
      · refine lv_iload cx.1 cx.2.1 dX11_part_50 (lv_at hl 0 rfl) ?_
        exact hj52 r4 h _ _ ls rr4 hp (lv_sub hl [] rfl) hf
  · refine lv_iload_n cx.1 cx.2.1 dX11_part_10 rfl (lv_at hl 0 rfl) ?_
    rw [hQ]; exact z_iret cx hp rr1 dX11_part_11 hf
theorem dX11_sub_0 : decode cX11_sub 0 = .ok (.aload_n 0, 1) := by decide +kernel
theorem dX11_sub_1 : decode cX11_sub 1 = .ok (.iload_n 1, 1) := by decide +kernel
theorem dX11_sub_2 : decode cX11_sub 2 = .ok (.iload_n 3, 1) := by decide +kernel
theorem dX11_sub_3 : decode cX11_sub 3 = .ok (.invokevirtual 259, 3) := by decide +kernel
theorem dX11_sub_6 : decode cX11_sub 6 = .ok (.istore 4, 2) := by decide +kernel
theorem dX11_sub_8 : decode cX11_sub 8 = .ok (.iload 4, 2) := by decide +kernel
theorem dX11_sub_10 : decode cX11_sub 10 = .ok (.ifCond .eq 6, 3) := by decide +kernel
theorem dX11_sub_13 : decode cX11_sub 13 = .ok (.iload 4, 2) := by decide +kernel
theorem dX11_sub_15 : decode cX11_sub 15 = .ok (.ireturn, 1) := by decide +kernel
theorem dX11_sub_16 : decode cX11_sub 16 = .ok (.aload_n 0, 1) := by decide +kernel
theorem dX11_sub_17 : decode cX11_sub 17 = .ok (.getfield 23, 3) := by decide +kernel
theorem dX11_sub_20 : decode cX11_sub 20 = .ok (.iload_n 1, 1) := by decide +kernel
theorem dX11_sub_21 : decode cX11_sub 21 = .ok (.aaload, 1) := by decide +kernel
theorem dX11_sub_22 : decode cX11_sub 22 = .ok (.iload_n 2, 1) := by decide +kernel
theorem dX11_sub_23 : decode cX11_sub 23 = .ok (.invokevirtual 256, 3) := by decide +kernel
theorem dX11_sub_26 : decode cX11_sub 26 = .ok (.istore 5, 2) := by decide +kernel
theorem dX11_sub_28 : decode cX11_sub 28 = .ok (.iload 5, 2) := by decide +kernel
theorem dX11_sub_30 : decode cX11_sub 30 = .ok (.iconst (-1), 1) := by decide +kernel
theorem dX11_sub_31 : decode cX11_sub 31 = .ok (.if_icmp .ne 6, 3) := by decide +kernel
theorem dX11_sub_34 : decode cX11_sub 34 = .ok (.bipush (-3), 2) := by decide +kernel
theorem dX11_sub_36 : decode cX11_sub 36 = .ok (.ireturn, 1) := by decide +kernel
theorem dX11_sub_37 : decode cX11_sub 37 = .ok (.aload_n 0, 1) := by decide +kernel
theorem dX11_sub_38 : decode cX11_sub 38 = .ok (.iload 5, 2) := by decide +kernel
theorem dX11_sub_40 : decode cX11_sub 40 = .ok (.aload_n 0, 1) := by decide +kernel
theorem dX11_sub_41 : decode cX11_sub 41 = .ok (.getfield 23, 3) := by decide +kernel
theorem dX11_sub_44 : decode cX11_sub 44 = .ok (.iload_n 1, 1) := by decide +kernel
theorem dX11_sub_45 : decode cX11_sub 45 = .ok (.aaload, 1) := by decide +kernel
theorem dX11_sub_46 : decode cX11_sub 46 = .ok (.getfield 172, 3) := by decide +kernel
theorem dX11_sub_49 : decode cX11_sub 49 = .ok (.invokevirtual 262, 3) := by decide +kernel
theorem dX11_sub_52 : decode cX11_sub 52 = .ok (.istore 6, 2) := by decide +kernel
theorem dX11_sub_54 : decode cX11_sub 54 = .ok (.aload_n 0, 1) := by decide +kernel
theorem dX11_sub_55 : decode cX11_sub 55 = .ok (.getfield 28, 3) := by decide +kernel
theorem dX11_sub_58 : decode cX11_sub 58 = .ok (.aload_n 0, 1) := by decide +kernel
theorem dX11_sub_59 : decode cX11_sub 59 = .ok (.getfield 23, 3) := by decide +kernel
theorem dX11_sub_62 : decode cX11_sub 62 = .ok (.iload_n 1, 1) := by decide +kernel
theorem dX11_sub_63 : decode cX11_sub 63 = .ok (.aaload, 1) := by decide +kernel
theorem dX11_sub_64 : decode cX11_sub 64 = .ok (.iload 6, 2) := by decide +kernel
theorem dX11_sub_66 : decode cX11_sub 66 = .ok (.aload_n 0, 1) := by decide +kernel
theorem dX11_sub_67 : decode cX11_sub 67 = .ok (.getfield 101, 3) := by decide +kernel
theorem dX11_sub_70 : decode cX11_sub 70 = .ok (.aload_n 0, 1) := by decide +kernel
theorem dX11_sub_71 : decode cX11_sub 71 = .ok (.getfield 105, 3) := by decide +kernel
theorem dX11_sub_74 : decode cX11_sub 74 = .ok (.invokevirtual 265, 3) := by decide +kernel
theorem dX11_sub_77 : decode cX11_sub 77 = .ok (.aload_n 0, 1) := by decide +kernel
theorem dX11_sub_78 : decode cX11_sub 78 = .ok (.iload_n 3, 1) := by decide +kernel
theorem dX11_sub_79 : decode cX11_sub 79 = .ok (.invokevirtual 134, 3) := by decide +kernel
theorem dX11_sub_82 : decode cX11_sub 82 = .ok (.aload_n 0, 1) := by decide +kernel
theorem dX11_sub_83 : decode cX11_sub 83 = .ok (.getfield 28, 3) := by decide +kernel
theorem dX11_sub_86 : decode cX11_sub 86 = .ok (.getfield 172, 3) := by decide +kernel
theorem dX11_sub_89 : decode cX11_sub 89 = .ok (.ireturn, 1) := by decide +kernel
def fX11_sub (F : Nat) (a0 : Nat) (a1 : Int) (a2 : Int) (a3 : Int) (h : HF) : RO :=
  zbd (fX11_refuseSource F a0 a1 a3 h) fun r1 h =>
  if r1 = 0 then (
    zrs (a0 + 5) a1 fun x2 =>
    zbd (fX0_partBits F x2 a2 h) fun r3 h =>
    if r3 = (-1) then (
      some ((-3), h)
    ) else (
      zrs (a0 + 5) a1 fun x4 =>
      zgf h x4 0 fun x5 =>
      zbd (fX11_numberMembers F a0 r3 x5 h) fun r6 h =>
      zrs (a0 + 5) a1 fun x7 =>
      zbd (fX0_becomeImage F (a0 + 6) x7 r6 (a0 + 115) (a0 + 116) h) fun _ h =>
      zbd (fX11_putDraft F a0 a3 h) fun _ h =>
      zgf h (a0 + 6) 0 fun x10 =>
      some (x10, h)
    )
  ) else (
    some (r1, h)
  )
set_option maxHeartbeats 4000000 in
set_option maxRecDepth 100000 in
theorem mX11_sub (F : Nat) (l : Launch) (g : zG) (B : Nat) (h : HF) (a0 : Nat) (a1 : Int) (a2 : Int) (a3 : Int) (ra0 : kt a0 = 14) (ra1 : rng a1) (ra2 : rng a2) (ra3 : rng a3) : CTi l g B yX11_sub cX11_sub 7 (some .int) 5 [.ref (B + a0), .int (ii a1), .int (ii a2), .int (ii a3)] h (fX11_sub F a0 a1 a2 a3 h) := by
  refine z_enterI (by decide) rfl (Nat.le_of_ble_eq_true rfl) ?_
  intro p e s m args below meth c ls o Q cx hp hl hf hQ
  have hl : lv_has ls 7 [(0, .ref (B + a0)), (1, .int (ii a1)), (2, .int (ii a2)), (3, .int (ii a3))] := hl
  unfold fX11_sub at hf
  refine lv_aload_n cx.1 cx.2.1 dX11_sub_0 rfl (lv_at hl 0 rfl) ?_
  refine lv_iload_n cx.1 cx.2.1 dX11_sub_1 rfl (lv_at hl 1 rfl) ?_
  refine lv_iload_n cx.1 cx.2.1 dX11_sub_2 rfl (lv_at hl 3 rfl) ?_
  refine z_ci cx hp (fun o' hx => zrunV (n := 5) (As := [.int (ii a1), .int (ii a3)]) (rest := []) cx hp (mX11_refuseSource F l g B h a0 a1 a3 ra0 ra1 ra3 o' hx) 11 ra0 (by decide) rfl vw_X11_refuseSource ml_X11_259 (by decide) rfl hl.1 rfl (Nat.le_of_ble_eq_true rfl) dX11_sub_3) hf (fun r1 h H locs rr1 hp hf => ?_)
  refine lv_istore (lv' := [(4, .int (ii r1)), (0, .ref (B + a0)), (1, .int (ii a1)), (2, .int (ii a2)), (3, .int (ii a3))]) cx.1 cx.2.1 dX11_sub_6 hl (by decide) rfl (fun ls hl => ?_)
  refine lv_iload cx.1 cx.2.1 dX11_sub_8 (lv_at hl 0 rfl) ?_
  refine z_if_eq cx rr1 (tgt := 16) dX11_sub_10 (by decide) hf (fun _ hf => ?_) (fun _ hf => ?_)
  · refine lv_aload_n cx.1 cx.2.1 dX11_sub_16 rfl (lv_at hl 1 rfl) ?_
    refine z_gets cx hp (T := TX11) 11 2 (a0 + 5) rfl zin_11 (by decide) (by decide) ra0 rfl fl_X11_23 dX11_sub_17 ?_
    refine lv_iload_n cx.1 cx.2.1 dX11_sub_20 rfl (lv_at hl 2 rfl) ?_
    refine z_aald1 cx hp (zs_11_2 a0 (kt_lt ra0 (by decide)) ra0) ra1 dX11_sub_21 hf (fun x2 rx2 hf => ?_)
    refine lv_iload_n cx.1 cx.2.1 dX11_sub_22 rfl (lv_at hl 3 rfl) ?_
    refine z_ci cx hp (fun o' hx => zrunV (n := 5) (As := [.int (ii a2)]) (rest := []) cx hp (mX0_partBits F l g B h x2 a2 rx2 ra2 o' hx) 0 rx2 (by decide) rfl vw_X0_partBits ml_X11_256 (by decide) rfl hl.1 rfl (Nat.le_of_ble_eq_true rfl) dX11_sub_23) hf (fun r3 h H locs rr3 hp hf => ?_)
    refine lv_istore (lv' := [(5, .int (ii r3)), (4, .int (ii r1)), (0, .ref (B + a0)), (1, .int (ii a1)), (2, .int (ii a2)), (3, .int (ii a3))]) cx.1 cx.2.1 dX11_sub_26 hl (by decide) rfl (fun ls hl => ?_)
    refine lv_iload cx.1 cx.2.1 dX11_sub_28 (lv_at hl 0 rfl) ?_
    refine z_iconst cx dX11_sub_30 ?_
    refine z_icmp_ne cx rr3 (by decide) (tgt := 37) dX11_sub_31 (by decide) hf (fun _ hf => ?_) (fun _ hf => ?_)
    · refine z_bipush cx (by decide) dX11_sub_34 ?_
      rw [hQ]; exact z_iret cx hp (by decide) dX11_sub_36 hf
    · refine lv_aload_n cx.1 cx.2.1 dX11_sub_37 rfl (lv_at hl 2 rfl) ?_
      refine lv_iload cx.1 cx.2.1 dX11_sub_38 (lv_at hl 0 rfl) ?_
      refine lv_aload_n cx.1 cx.2.1 dX11_sub_40 rfl (lv_at hl 2 rfl) ?_
      refine z_gets cx hp (T := TX11) 11 2 (a0 + 5) rfl zin_11 (by decide) (by decide) ra0 rfl fl_X11_23 dX11_sub_41 ?_
      refine lv_iload_n cx.1 cx.2.1 dX11_sub_44 rfl (lv_at hl 3 rfl) ?_
      refine z_aald1 cx hp (zs_11_2 a0 (kt_lt ra0 (by decide)) ra0) ra1 dX11_sub_45 hf (fun x4 rx4 hf => ?_)
      refine z_geti cx hp (T := TX0) 0 0 rfl zin_0 (by decide) (by decide) rx4 rfl fl_X11_172 dX11_sub_46 hf (fun x5 rx5 hf => ?_)
      refine z_ci cx hp (fun o' hx => zrunV (n := 5) (As := [.int (ii r3), .int (ii x5)]) (rest := []) cx hp (mX11_numberMembers F l g B h a0 r3 x5 ra0 rr3 rx5 o' hx) 11 ra0 (by decide) rfl vw_X11_numberMembers ml_X11_262 (by decide) rfl hl.1 rfl (Nat.le_of_ble_eq_true rfl) dX11_sub_49) hf (fun r6 h H locs rr6 hp hf => ?_)
      refine lv_istore (lv' := [(6, .int (ii r6)), (5, .int (ii r3)), (4, .int (ii r1)), (0, .ref (B + a0)), (1, .int (ii a1)), (2, .int (ii a2)), (3, .int (ii a3))]) cx.1 cx.2.1 dX11_sub_52 hl (by decide) rfl (fun ls hl => ?_)
      refine lv_aload_n cx.1 cx.2.1 dX11_sub_54 rfl (lv_at hl 3 rfl) ?_
      refine z_gets cx hp (T := TX11) 11 3 (a0 + 6) rfl zin_11 (by decide) (by decide) ra0 rfl fl_X11_28 dX11_sub_55 ?_
      refine lv_aload_n cx.1 cx.2.1 dX11_sub_58 rfl (lv_at hl 3 rfl) ?_
      refine z_gets cx hp (T := TX11) 11 2 (a0 + 5) rfl zin_11 (by decide) (by decide) ra0 rfl fl_X11_23 dX11_sub_59 ?_
      refine lv_iload_n cx.1 cx.2.1 dX11_sub_62 rfl (lv_at hl 4 rfl) ?_
      refine z_aald1 cx hp (zs_11_2 a0 (kt_lt ra0 (by decide)) ra0) ra1 dX11_sub_63 hf (fun x7 rx7 hf => ?_)
      refine lv_iload cx.1 cx.2.1 dX11_sub_64 (lv_at hl 0 rfl) ?_
      refine lv_aload_n cx.1 cx.2.1 dX11_sub_66 rfl (lv_at hl 3 rfl) ?_
      refine z_gets cx hp (T := TX11) 11 14 (a0 + 115) rfl zin_11 (by decide) (by decide) ra0 rfl fl_X11_101 dX11_sub_67 ?_
      refine lv_aload_n cx.1 cx.2.1 dX11_sub_70 rfl (lv_at hl 3 rfl) ?_
      refine z_gets cx hp (T := TX11) 11 15 (a0 + 116) rfl zin_11 (by decide) (by decide) ra0 rfl fl_X11_105 dX11_sub_71 ?_
      refine z_cv cx hp (fun o' hx => zrunV (n := 5) (As := [.ref (B + x7), .int (ii r6), .ref (B + (a0 + 115)), .ref (B + (a0 + 116))]) (rest := []) cx hp (mX0_becomeImage F l g B h (a0 + 6) x7 r6 (a0 + 115) (a0 + 116) (zs_11_3 a0 (kt_lt ra0 (by decide)) ra0) rx7 rr6 (zs_11_14 a0 (kt_lt ra0 (by decide)) ra0) (zs_11_15 a0 (kt_lt ra0 (by decide)) ra0) o' hx) 0 (zs_11_3 a0 (kt_lt ra0 (by decide)) ra0) (by decide) rfl vw_X0_becomeImage ml_X11_265 (by decide) rfl hl.1 rfl (Nat.le_of_ble_eq_true rfl) dX11_sub_74) hf (fun _ h H locs hp hf => ?_)
      refine lv_aload_n cx.1 cx.2.1 dX11_sub_77 rfl (lv_at hl 3 rfl) ?_
      refine lv_iload_n cx.1 cx.2.1 dX11_sub_78 rfl (lv_at hl 6 rfl) ?_
      refine z_cv cx hp (fun o' hx => zrunV (n := 5) (As := [.int (ii a3)]) (rest := []) cx hp (mX11_putDraft F l g B h a0 a3 ra0 ra3 o' hx) 11 ra0 (by decide) rfl vw_X11_putDraft ml_X11_134 (by decide) rfl hl.1 rfl (Nat.le_of_ble_eq_true rfl) dX11_sub_79) hf (fun _ h H locs hp hf => ?_)
      refine lv_aload_n cx.1 cx.2.1 dX11_sub_82 rfl (lv_at hl 3 rfl) ?_
      refine z_gets cx hp (T := TX11) 11 3 (a0 + 6) rfl zin_11 (by decide) (by decide) ra0 rfl fl_X11_28 dX11_sub_83 ?_
      refine z_geti cx hp (T := TX0) 0 0 rfl zin_0 (by decide) (by decide) (zs_11_3 a0 (kt_lt ra0 (by decide)) ra0) rfl fl_X11_172 dX11_sub_86 hf (fun x10 rx10 hf => ?_)
      rw [hQ]; exact z_iret cx hp rx10 dX11_sub_89 hf
  · refine lv_iload cx.1 cx.2.1 dX11_sub_13 (lv_at hl 0 rfl) ?_
    rw [hQ]; exact z_iret cx hp rr1 dX11_sub_15 hf
theorem dX11_link_0 : decode cX11_link 0 = .ok (.aload_n 0, 1) := by decide +kernel
theorem dX11_link_1 : decode cX11_link 1 = .ok (.iload_n 1, 1) := by decide +kernel
theorem dX11_link_2 : decode cX11_link 2 = .ok (.invokevirtual 175, 3) := by decide +kernel
theorem dX11_link_5 : decode cX11_link 5 = .ok (.istore 4, 2) := by decide +kernel
theorem dX11_link_7 : decode cX11_link 7 = .ok (.iload 4, 2) := by decide +kernel
theorem dX11_link_9 : decode cX11_link 9 = .ok (.ifCond .eq 6, 3) := by decide +kernel
theorem dX11_link_12 : decode cX11_link 12 = .ok (.iload 4, 2) := by decide +kernel
theorem dX11_link_14 : decode cX11_link 14 = .ok (.ireturn, 1) := by decide +kernel
theorem dX11_link_15 : decode cX11_link 15 = .ok (.aload_n 0, 1) := by decide +kernel
theorem dX11_link_16 : decode cX11_link 16 = .ok (.getfield 23, 3) := by decide +kernel
theorem dX11_link_19 : decode cX11_link 19 = .ok (.iload_n 1, 1) := by decide +kernel
theorem dX11_link_20 : decode cX11_link 20 = .ok (.aaload, 1) := by decide +kernel
theorem dX11_link_21 : decode cX11_link 21 = .ok (.astore 5, 2) := by decide +kernel
theorem dX11_link_23 : decode cX11_link 23 = .ok (.aload 5, 2) := by decide +kernel
theorem dX11_link_25 : decode cX11_link 25 = .ok (.iload_n 2, 1) := by decide +kernel
theorem dX11_link_26 : decode cX11_link 26 = .ok (.invokevirtual 149, 3) := by decide +kernel
theorem dX11_link_29 : decode cX11_link 29 = .ok (.ifCond .eq 12, 3) := by decide +kernel
theorem dX11_link_32 : decode cX11_link 32 = .ok (.aload 5, 2) := by decide +kernel
theorem dX11_link_34 : decode cX11_link 34 = .ok (.iload_n 3, 1) := by decide +kernel
theorem dX11_link_35 : decode cX11_link 35 = .ok (.invokevirtual 149, 3) := by decide +kernel
theorem dX11_link_38 : decode cX11_link 38 = .ok (.ifCond .ne 6, 3) := by decide +kernel
theorem dX11_link_44 : decode cX11_link 44 = .ok (.aload_n 0, 1) := by decide +kernel
theorem dX11_link_45 : decode cX11_link 45 = .ok (.getfield 67, 3) := by decide +kernel
theorem dX11_link_48 : decode cX11_link 48 = .ok (.aload 5, 2) := by decide +kernel
theorem dX11_link_50 : decode cX11_link 50 = .ok (.invokevirtual 269, 3) := by decide +kernel
theorem dX11_link_53 : decode cX11_link 53 = .ok (.aload_n 0, 1) := by decide +kernel
theorem dX11_link_54 : decode cX11_link 54 = .ok (.getfield 67, 3) := by decide +kernel
theorem dX11_link_57 : decode cX11_link 57 = .ok (.iload_n 2, 1) := by decide +kernel
theorem dX11_link_58 : decode cX11_link 58 = .ok (.iload_n 3, 1) := by decide +kernel
theorem dX11_link_59 : decode cX11_link 59 = .ok (.invokevirtual 273, 3) := by decide +kernel
theorem dX11_link_62 : decode cX11_link 62 = .ok (.ireturn, 1) := by decide +kernel
theorem dX11_link_41 : decode cX11_link 41 = .ok (.bipush (-3), 2) := by decide +kernel
theorem dX11_link_43 : decode cX11_link 43 = .ok (.ireturn, 1) := by decide +kernel
def fX11_link (F : Nat) (a0 : Nat) (a1 : Int) (a2 : Int) (a3 : Int) (h : HF) : RO :=
  zbd (fX11_refuseDrawer F a0 a1 h) fun r1 h =>
  if r1 = 0 then (
    zrs (a0 + 5) a1 fun x2 =>
    zbd (fX0_hasElement F x2 a2 h) fun r3 h =>
    zjn (fun  (h : HF) => (
      some ((-3), h)
    )) fun j41 =>
    if r3 = 0 then (
      j41  h
    ) else (
      zbd (fX0_hasElement F x2 a3 h) fun r4 h =>
      if r4 = 0 then (
        j41  h
      ) else (
        zbd (fX2_gather F (a0 + 94) x2 h) fun _ h =>
        zbd (fX2_joining F (a0 + 94) a2 a3 h) fun r6 h =>
        some (r6, h)
      )
    )
  ) else (
    some (r1, h)
  )
set_option maxHeartbeats 4000000 in
set_option maxRecDepth 100000 in
theorem mX11_link (F : Nat) (l : Launch) (g : zG) (B : Nat) (h : HF) (a0 : Nat) (a1 : Int) (a2 : Int) (a3 : Int) (ra0 : kt a0 = 14) (ra1 : rng a1) (ra2 : rng a2) (ra3 : rng a3) : CTi l g B yX11_link cX11_link 6 (some .int) 5 [.ref (B + a0), .int (ii a1), .int (ii a2), .int (ii a3)] h (fX11_link F a0 a1 a2 a3 h) := by
  refine z_enterI (by decide) rfl (Nat.le_of_ble_eq_true rfl) ?_
  intro p e s m args below meth c ls o Q cx hp hl hf hQ
  have hl : lv_has ls 6 [(0, .ref (B + a0)), (1, .int (ii a1)), (2, .int (ii a2)), (3, .int (ii a3))] := hl
  unfold fX11_link at hf
  refine lv_aload_n cx.1 cx.2.1 dX11_link_0 rfl (lv_at hl 0 rfl) ?_
  refine lv_iload_n cx.1 cx.2.1 dX11_link_1 rfl (lv_at hl 1 rfl) ?_
  refine z_ci cx hp (fun o' hx => zrunV (n := 5) (As := [.int (ii a1)]) (rest := []) cx hp (mX11_refuseDrawer F l g B h a0 a1 ra0 ra1 o' hx) 11 ra0 (by decide) rfl vw_X11_refuseDrawer ml_X11_175 (by decide) rfl hl.1 rfl (Nat.le_of_ble_eq_true rfl) dX11_link_2) hf (fun r1 h H locs rr1 hp hf => ?_)
  refine lv_istore (lv' := [(4, .int (ii r1)), (0, .ref (B + a0)), (1, .int (ii a1)), (2, .int (ii a2)), (3, .int (ii a3))]) cx.1 cx.2.1 dX11_link_5 hl (by decide) rfl (fun ls hl => ?_)
  refine lv_iload cx.1 cx.2.1 dX11_link_7 (lv_at hl 0 rfl) ?_
  refine z_if_eq cx rr1 (tgt := 15) dX11_link_9 (by decide) hf (fun _ hf => ?_) (fun _ hf => ?_)
  · refine lv_aload_n cx.1 cx.2.1 dX11_link_15 rfl (lv_at hl 1 rfl) ?_
    refine z_gets cx hp (T := TX11) 11 2 (a0 + 5) rfl zin_11 (by decide) (by decide) ra0 rfl fl_X11_23 dX11_link_16 ?_
    refine lv_iload_n cx.1 cx.2.1 dX11_link_19 rfl (lv_at hl 2 rfl) ?_
    refine z_aald1 cx hp (zs_11_2 a0 (kt_lt ra0 (by decide)) ra0) ra1 dX11_link_20 hf (fun x2 rx2 hf => ?_)
    refine lv_astore (lv' := [(5, .ref (B + x2)), (4, .int (ii r1)), (0, .ref (B + a0)), (1, .int (ii a1)), (2, .int (ii a2)), (3, .int (ii a3))]) cx.1 cx.2.1 dX11_link_21 hl (by decide) rfl (fun ls hl => ?_)
    refine lv_aload cx.1 cx.2.1 dX11_link_23 (lv_at hl 0 rfl) ?_
    refine lv_iload_n cx.1 cx.2.1 dX11_link_25 rfl (lv_at hl 4 rfl) ?_
    refine z_ci cx hp (fun o' hx => zrunV (n := 5) (As := [.int (ii a2)]) (rest := []) cx hp (mX0_hasElement F l g B h x2 a2 rx2 ra2 o' hx) 0 rx2 (by decide) rfl vw_X0_hasElement ml_X11_149 (by decide) rfl hl.1 rfl (Nat.le_of_ble_eq_true rfl) dX11_link_26) hf (fun r3 h H locs rr3 hp hf => ?_)
    refine z_jn hf (fun j => ∀  (h : HF) (H : Heap) (locs : List Loc) (ls : Array Slot), Hp g B s h H locs → lv_has ls 6 [] → j  h = some o → W p l e (rmn 5) s m args below meth c H locs 0 0 Q (F0 m 41 ls [])) ?_ (fun j41 hj41 hf => ?_)
    · intro  h H locs ls  hp hl hf
      refine z_bipush cx (by decide) dX11_link_41 ?_
      rw [hQ]; exact z_iret cx hp (by decide) dX11_link_43 hf
    refine z_if_eq cx rr3 (tgt := 41) dX11_link_29 (by decide) hf (fun _ hf => ?_) (fun _ hf => ?_)
    · exact hj41  h _ _ ls  hp (lv_sub hl [] rfl) hf
    · refine lv_aload cx.1 cx.2.1 dX11_link_32 (lv_at hl 0 rfl) ?_
      refine lv_iload_n cx.1 cx.2.1 dX11_link_34 rfl (lv_at hl 5 rfl) ?_
      refine z_ci cx hp (fun o' hx => zrunV (n := 5) (As := [.int (ii a3)]) (rest := []) cx hp (mX0_hasElement F l g B h x2 a3 rx2 ra3 o' hx) 0 rx2 (by decide) rfl vw_X0_hasElement ml_X11_149 (by decide) rfl hl.1 rfl (Nat.le_of_ble_eq_true rfl) dX11_link_35) hf (fun r4 h H locs rr4 hp hf => ?_)
      refine z_if_ne cx rr4 (tgt := 44) dX11_link_38 (by decide) hf (fun _ hf => ?_) (fun _ hf => ?_)
      · exact hj41  h _ _ ls  hp (lv_sub hl [] rfl) hf
      · refine lv_aload_n cx.1 cx.2.1 dX11_link_44 rfl (lv_at hl 2 rfl) ?_
        refine z_gets cx hp (T := TX11) 11 9 (a0 + 94) rfl zin_11 (by decide) (by decide) ra0 rfl fl_X11_67 dX11_link_45 ?_
        refine lv_aload cx.1 cx.2.1 dX11_link_48 (lv_at hl 0 rfl) ?_
        refine z_cv cx hp (fun o' hx => zrunV (n := 5) (As := [.ref (B + x2)]) (rest := []) cx hp (mX2_gather F l g B h (a0 + 94) x2 (zs_11_9 a0 (kt_lt ra0 (by decide)) ra0) rx2 o' hx) 2 (zs_11_9 a0 (kt_lt ra0 (by decide)) ra0) (by decide) rfl vw_X2_gather ml_X11_269 (by decide) rfl hl.1 rfl (Nat.le_of_ble_eq_true rfl) dX11_link_50) hf (fun _ h H locs hp hf => ?_)
        refine lv_aload_n cx.1 cx.2.1 dX11_link_53 rfl (lv_at hl 2 rfl) ?_
        refine z_gets cx hp (T := TX11) 11 9 (a0 + 94) rfl zin_11 (by decide) (by decide) ra0 rfl fl_X11_67 dX11_link_54 ?_
        refine lv_iload_n cx.1 cx.2.1 dX11_link_57 rfl (lv_at hl 4 rfl) ?_
        refine lv_iload_n cx.1 cx.2.1 dX11_link_58 rfl (lv_at hl 5 rfl) ?_
        refine z_ci cx hp (fun o' hx => zrunV (n := 5) (As := [.int (ii a2), .int (ii a3)]) (rest := []) cx hp (mX2_joining F l g B h (a0 + 94) a2 a3 (zs_11_9 a0 (kt_lt ra0 (by decide)) ra0) ra2 ra3 o' hx) 2 (zs_11_9 a0 (kt_lt ra0 (by decide)) ra0) (by decide) rfl vw_X2_joining ml_X11_273 (by decide) rfl hl.1 rfl (Nat.le_of_ble_eq_true rfl) dX11_link_59) hf (fun r6 h H locs rr6 hp hf => ?_)
        rw [hQ]; exact z_iret cx hp rr6 dX11_link_62 hf
  · refine lv_iload cx.1 cx.2.1 dX11_link_12 (lv_at hl 0 rfl) ?_
    rw [hQ]; exact z_iret cx hp rr1 dX11_link_14 hf
theorem dX11_congruence_0 : decode cX11_congruence 0 = .ok (.aload_n 0, 1) := by decide +kernel
theorem dX11_congruence_1 : decode cX11_congruence 1 = .ok (.iload_n 1, 1) := by decide +kernel
theorem dX11_congruence_2 : decode cX11_congruence 2 = .ok (.invokevirtual 175, 3) := by decide +kernel
theorem dX11_congruence_5 : decode cX11_congruence 5 = .ok (.istore_n 3, 1) := by decide +kernel
theorem dX11_congruence_6 : decode cX11_congruence 6 = .ok (.iload_n 3, 1) := by decide +kernel
theorem dX11_congruence_7 : decode cX11_congruence 7 = .ok (.ifCond .eq 5, 3) := by decide +kernel
theorem dX11_congruence_10 : decode cX11_congruence 10 = .ok (.iload_n 3, 1) := by decide +kernel
theorem dX11_congruence_11 : decode cX11_congruence 11 = .ok (.ireturn, 1) := by decide +kernel
theorem dX11_congruence_12 : decode cX11_congruence 12 = .ok (.aload_n 0, 1) := by decide +kernel
theorem dX11_congruence_13 : decode cX11_congruence 13 = .ok (.getfield 67, 3) := by decide +kernel
theorem dX11_congruence_16 : decode cX11_congruence 16 = .ok (.aload_n 0, 1) := by decide +kernel
theorem dX11_congruence_17 : decode cX11_congruence 17 = .ok (.getfield 23, 3) := by decide +kernel
theorem dX11_congruence_20 : decode cX11_congruence 20 = .ok (.iload_n 1, 1) := by decide +kernel
theorem dX11_congruence_21 : decode cX11_congruence 21 = .ok (.aaload, 1) := by decide +kernel
theorem dX11_congruence_22 : decode cX11_congruence 22 = .ok (.invokevirtual 269, 3) := by decide +kernel
theorem dX11_congruence_25 : decode cX11_congruence 25 = .ok (.iload_n 2, 1) := by decide +kernel
theorem dX11_congruence_26 : decode cX11_congruence 26 = .ok (.iconst (-1), 1) := by decide +kernel
theorem dX11_congruence_27 : decode cX11_congruence 27 = .ok (.if_icmp .ne 11, 3) := by decide +kernel
theorem dX11_congruence_30 : decode cX11_congruence 30 = .ok (.aload_n 0, 1) := by decide +kernel
theorem dX11_congruence_31 : decode cX11_congruence 31 = .ok (.getfield 67, 3) := by decide +kernel
theorem dX11_congruence_34 : decode cX11_congruence 34 = .ok (.getfield 276, 3) := by decide +kernel
theorem dX11_congruence_37 : decode cX11_congruence 37 = .ok (.ireturn, 1) := by decide +kernel
theorem dX11_congruence_38 : decode cX11_congruence 38 = .ok (.aload_n 0, 1) := by decide +kernel
theorem dX11_congruence_39 : decode cX11_congruence 39 = .ok (.getfield 67, 3) := by decide +kernel
theorem dX11_congruence_42 : decode cX11_congruence 42 = .ok (.iload_n 2, 1) := by decide +kernel
theorem dX11_congruence_43 : decode cX11_congruence 43 = .ok (.invokevirtual 279, 3) := by decide +kernel
theorem dX11_congruence_46 : decode cX11_congruence 46 = .ok (.ifCond .eq 15, 3) := by decide +kernel
theorem dX11_congruence_49 : decode cX11_congruence 49 = .ok (.aload_n 0, 1) := by decide +kernel
theorem dX11_congruence_50 : decode cX11_congruence 50 = .ok (.getfield 67, 3) := by decide +kernel
theorem dX11_congruence_53 : decode cX11_congruence 53 = .ok (.getfield 282, 3) := by decide +kernel
theorem dX11_congruence_56 : decode cX11_congruence 56 = .ok (.iload_n 2, 1) := by decide +kernel
theorem dX11_congruence_57 : decode cX11_congruence 57 = .ok (.iaload, 1) := by decide +kernel
theorem dX11_congruence_58 : decode cX11_congruence 58 = .ok (.goto 5, 3) := by decide +kernel
theorem dX11_congruence_61 : decode cX11_congruence 61 = .ok (.bipush (-3), 2) := by decide +kernel
theorem dX11_congruence_63 : decode cX11_congruence 63 = .ok (.ireturn, 1) := by decide +kernel
def fX11_congruence (F : Nat) (a0 : Nat) (a1 : Int) (a2 : Int) (h : HF) : RO :=
  zbd (fX11_refuseDrawer F a0 a1 h) fun r1 h =>
  if r1 = 0 then (
    zrs (a0 + 5) a1 fun x2 =>
    zbd (fX2_gather F (a0 + 94) x2 h) fun _ h =>
    if a2 = (-1) then (
      zgf h (a0 + 94) 1 fun x4 =>
      some (x4, h)
    ) else (
      zbd (fX2_has F (a0 + 94) a2 h) fun r5 h =>
      zjn (fun (y63_0 : Int) (h : HF) => (
        some (y63_0, h)
      )) fun j63 =>
      if r5 = 0 then (
        j63 (-3) h
      ) else (
        zrd h ((a0 + 94) + 1) a2 fun x6 =>
        j63 x6 h
      )
    )
  ) else (
    some (r1, h)
  )
set_option maxHeartbeats 4000000 in
set_option maxRecDepth 100000 in
theorem mX11_congruence (F : Nat) (l : Launch) (g : zG) (B : Nat) (h : HF) (a0 : Nat) (a1 : Int) (a2 : Int) (ra0 : kt a0 = 14) (ra1 : rng a1) (ra2 : rng a2) : CTi l g B yX11_congruence cX11_congruence 4 (some .int) 5 [.ref (B + a0), .int (ii a1), .int (ii a2)] h (fX11_congruence F a0 a1 a2 h) := by
  refine z_enterI (by decide) rfl (Nat.le_of_ble_eq_true rfl) ?_
  intro p e s m args below meth c ls o Q cx hp hl hf hQ
  have hl : lv_has ls 4 [(0, .ref (B + a0)), (1, .int (ii a1)), (2, .int (ii a2))] := hl
  unfold fX11_congruence at hf
  refine lv_aload_n cx.1 cx.2.1 dX11_congruence_0 rfl (lv_at hl 0 rfl) ?_
  refine lv_iload_n cx.1 cx.2.1 dX11_congruence_1 rfl (lv_at hl 1 rfl) ?_
  refine z_ci cx hp (fun o' hx => zrunV (n := 5) (As := [.int (ii a1)]) (rest := []) cx hp (mX11_refuseDrawer F l g B h a0 a1 ra0 ra1 o' hx) 11 ra0 (by decide) rfl vw_X11_refuseDrawer ml_X11_175 (by decide) rfl hl.1 rfl (Nat.le_of_ble_eq_true rfl) dX11_congruence_2) hf (fun r1 h H locs rr1 hp hf => ?_)
  refine lv_istore_n (lv' := [(3, .int (ii r1)), (0, .ref (B + a0)), (1, .int (ii a1)), (2, .int (ii a2))]) cx.1 cx.2.1 dX11_congruence_5 rfl hl (by decide) rfl (fun ls hl => ?_)
  refine lv_iload_n cx.1 cx.2.1 dX11_congruence_6 rfl (lv_at hl 0 rfl) ?_
  refine z_if_eq cx rr1 (tgt := 12) dX11_congruence_7 (by decide) hf (fun _ hf => ?_) (fun _ hf => ?_)
  · refine lv_aload_n cx.1 cx.2.1 dX11_congruence_12 rfl (lv_at hl 1 rfl) ?_
    refine z_gets cx hp (T := TX11) 11 9 (a0 + 94) rfl zin_11 (by decide) (by decide) ra0 rfl fl_X11_67 dX11_congruence_13 ?_
    refine lv_aload_n cx.1 cx.2.1 dX11_congruence_16 rfl (lv_at hl 1 rfl) ?_
    refine z_gets cx hp (T := TX11) 11 2 (a0 + 5) rfl zin_11 (by decide) (by decide) ra0 rfl fl_X11_23 dX11_congruence_17 ?_
    refine lv_iload_n cx.1 cx.2.1 dX11_congruence_20 rfl (lv_at hl 2 rfl) ?_
    refine z_aald1 cx hp (zs_11_2 a0 (kt_lt ra0 (by decide)) ra0) ra1 dX11_congruence_21 hf (fun x2 rx2 hf => ?_)
    refine z_cv cx hp (fun o' hx => zrunV (n := 5) (As := [.ref (B + x2)]) (rest := []) cx hp (mX2_gather F l g B h (a0 + 94) x2 (zs_11_9 a0 (kt_lt ra0 (by decide)) ra0) rx2 o' hx) 2 (zs_11_9 a0 (kt_lt ra0 (by decide)) ra0) (by decide) rfl vw_X2_gather ml_X11_269 (by decide) rfl hl.1 rfl (Nat.le_of_ble_eq_true rfl) dX11_congruence_22) hf (fun _ h H locs hp hf => ?_)
    refine lv_iload_n cx.1 cx.2.1 dX11_congruence_25 rfl (lv_at hl 3 rfl) ?_
    refine z_iconst cx dX11_congruence_26 ?_
    refine z_icmp_ne cx ra2 (by decide) (tgt := 38) dX11_congruence_27 (by decide) hf (fun _ hf => ?_) (fun _ hf => ?_)
    · refine lv_aload_n cx.1 cx.2.1 dX11_congruence_30 rfl (lv_at hl 1 rfl) ?_
      refine z_gets cx hp (T := TX11) 11 9 (a0 + 94) rfl zin_11 (by decide) (by decide) ra0 rfl fl_X11_67 dX11_congruence_31 ?_
      refine z_geti cx hp (T := TX2) 2 1 rfl zin_2 (by decide) (by decide) (zs_11_9 a0 (kt_lt ra0 (by decide)) ra0) rfl fl_X11_276 dX11_congruence_34 hf (fun x4 rx4 hf => ?_)
      rw [hQ]; exact z_iret cx hp rx4 dX11_congruence_37 hf
    · refine lv_aload_n cx.1 cx.2.1 dX11_congruence_38 rfl (lv_at hl 1 rfl) ?_
      refine z_gets cx hp (T := TX11) 11 9 (a0 + 94) rfl zin_11 (by decide) (by decide) ra0 rfl fl_X11_67 dX11_congruence_39 ?_
      refine lv_iload_n cx.1 cx.2.1 dX11_congruence_42 rfl (lv_at hl 3 rfl) ?_
      refine z_ci cx hp (fun o' hx => zrunV (n := 5) (As := [.int (ii a2)]) (rest := []) cx hp (mX2_has F l g B h (a0 + 94) a2 (zs_11_9 a0 (kt_lt ra0 (by decide)) ra0) ra2 o' hx) 2 (zs_11_9 a0 (kt_lt ra0 (by decide)) ra0) (by decide) rfl vw_X2_has ml_X11_279 (by decide) rfl hl.1 rfl (Nat.le_of_ble_eq_true rfl) dX11_congruence_43) hf (fun r5 h H locs rr5 hp hf => ?_)
      refine z_jn hf (fun j => ∀ (y63_0 : Int) (h : HF) (H : Heap) (locs : List Loc) (ls : Array Slot), rng y63_0 → Hp g B s h H locs → lv_has ls 4 [] → j y63_0 h = some o → W p l e (rmn 5) s m args below meth c H locs 0 0 Q (F0 m 63 ls [.int (ii y63_0)])) ?_ (fun j63 hj63 hf => ?_)
      · intro y63_0 h H locs ls ry63_0 hp hl hf
        rw [hQ]; exact z_iret cx hp ry63_0 dX11_congruence_63 hf
      refine z_if_eq cx rr5 (tgt := 61) dX11_congruence_46 (by decide) hf (fun _ hf => ?_) (fun _ hf => ?_)
      · refine z_bipush cx (by decide) dX11_congruence_61 ?_
        exact hj63 (-3) h _ _ ls (by decide) hp (lv_sub hl [] rfl) hf
      · refine lv_aload_n cx.1 cx.2.1 dX11_congruence_49 rfl (lv_at hl 1 rfl) ?_
        refine z_gets cx hp (T := TX11) 11 9 (a0 + 94) rfl zin_11 (by decide) (by decide) ra0 rfl fl_X11_67 dX11_congruence_50 ?_
        refine z_gets cx hp (T := TX2) 2 0 ((a0 + 94) + 1) rfl zin_2 (by decide) (by decide) (zs_11_9 a0 (kt_lt ra0 (by decide)) ra0) rfl fl_X11_282 dX11_congruence_53 ?_
        refine lv_iload_n cx.1 cx.2.1 dX11_congruence_56 rfl (lv_at hl 3 rfl) ?_
        refine z_iald cx hp (zs_2_0 (a0 + 94) (kt_lt (zs_11_9 a0 (kt_lt ra0 (by decide)) ra0) (by decide)) (zs_11_9 a0 (kt_lt ra0 (by decide)) ra0)) ra2 dX11_congruence_57 hf (fun x6 rx6 hf => ?_)
        refine lv_goto (tgt := 63) cx.1 cx.2.1 dX11_congruence_58 (by decide) ?_
        exact hj63 x6 h _ _ ls rx6 hp (lv_sub hl [] rfl) hf
  · refine lv_iload_n cx.1 cx.2.1 dX11_congruence_10 rfl (lv_at hl 0 rfl) ?_
    rw [hQ]; exact z_iret cx hp rr1 dX11_congruence_11 hf
theorem dX11_bound_0 : decode cX11_bound 0 = .ok (.aload_n 0, 1) := by decide +kernel
theorem dX11_bound_1 : decode cX11_bound 1 = .ok (.iload_n 1, 1) := by decide +kernel
theorem dX11_bound_2 : decode cX11_bound 2 = .ok (.invokevirtual 175, 3) := by decide +kernel
theorem dX11_bound_5 : decode cX11_bound 5 = .ok (.istore 5, 2) := by decide +kernel
theorem dX11_bound_7 : decode cX11_bound 7 = .ok (.iload 5, 2) := by decide +kernel
theorem dX11_bound_9 : decode cX11_bound 9 = .ok (.ifCond .eq 6, 3) := by decide +kernel
theorem dX11_bound_12 : decode cX11_bound 12 = .ok (.iload 5, 2) := by decide +kernel
theorem dX11_bound_14 : decode cX11_bound 14 = .ok (.ireturn, 1) := by decide +kernel
theorem dX11_bound_15 : decode cX11_bound 15 = .ok (.aload_n 0, 1) := by decide +kernel
theorem dX11_bound_16 : decode cX11_bound 16 = .ok (.getfield 67, 3) := by decide +kernel
theorem dX11_bound_19 : decode cX11_bound 19 = .ok (.aload_n 0, 1) := by decide +kernel
theorem dX11_bound_20 : decode cX11_bound 20 = .ok (.getfield 23, 3) := by decide +kernel
theorem dX11_bound_23 : decode cX11_bound 23 = .ok (.iload_n 1, 1) := by decide +kernel
theorem dX11_bound_24 : decode cX11_bound 24 = .ok (.aaload, 1) := by decide +kernel
theorem dX11_bound_25 : decode cX11_bound 25 = .ok (.invokevirtual 269, 3) := by decide +kernel
theorem dX11_bound_28 : decode cX11_bound 28 = .ok (.aload_n 0, 1) := by decide +kernel
theorem dX11_bound_29 : decode cX11_bound 29 = .ok (.getfield 67, 3) := by decide +kernel
theorem dX11_bound_32 : decode cX11_bound 32 = .ok (.iload_n 2, 1) := by decide +kernel
theorem dX11_bound_33 : decode cX11_bound 33 = .ok (.invokevirtual 279, 3) := by decide +kernel
theorem dX11_bound_36 : decode cX11_bound 36 = .ok (.ifCond .eq 14, 3) := by decide +kernel
theorem dX11_bound_39 : decode cX11_bound 39 = .ok (.aload_n 0, 1) := by decide +kernel
theorem dX11_bound_40 : decode cX11_bound 40 = .ok (.getfield 67, 3) := by decide +kernel
theorem dX11_bound_43 : decode cX11_bound 43 = .ok (.iload_n 3, 1) := by decide +kernel
theorem dX11_bound_44 : decode cX11_bound 44 = .ok (.invokevirtual 279, 3) := by decide +kernel
theorem dX11_bound_47 : decode cX11_bound 47 = .ok (.ifCond .ne 6, 3) := by decide +kernel
theorem dX11_bound_53 : decode cX11_bound 53 = .ok (.iload 4, 2) := by decide +kernel
theorem dX11_bound_55 : decode cX11_bound 55 = .ok (.ifCond .eq 15, 3) := by decide +kernel
theorem dX11_bound_58 : decode cX11_bound 58 = .ok (.aload_n 0, 1) := by decide +kernel
theorem dX11_bound_59 : decode cX11_bound 59 = .ok (.getfield 67, 3) := by decide +kernel
theorem dX11_bound_62 : decode cX11_bound 62 = .ok (.iload_n 2, 1) := by decide +kernel
theorem dX11_bound_63 : decode cX11_bound 63 = .ok (.iload_n 3, 1) := by decide +kernel
theorem dX11_bound_64 : decode cX11_bound 64 = .ok (.invokevirtual 285, 3) := by decide +kernel
theorem dX11_bound_67 : decode cX11_bound 67 = .ok (.goto 12, 3) := by decide +kernel
theorem dX11_bound_70 : decode cX11_bound 70 = .ok (.aload_n 0, 1) := by decide +kernel
theorem dX11_bound_71 : decode cX11_bound 71 = .ok (.getfield 67, 3) := by decide +kernel
theorem dX11_bound_74 : decode cX11_bound 74 = .ok (.iload_n 2, 1) := by decide +kernel
theorem dX11_bound_75 : decode cX11_bound 75 = .ok (.iload_n 3, 1) := by decide +kernel
theorem dX11_bound_76 : decode cX11_bound 76 = .ok (.invokevirtual 288, 3) := by decide +kernel
theorem dX11_bound_79 : decode cX11_bound 79 = .ok (.ireturn, 1) := by decide +kernel
theorem dX11_bound_50 : decode cX11_bound 50 = .ok (.bipush (-3), 2) := by decide +kernel
theorem dX11_bound_52 : decode cX11_bound 52 = .ok (.ireturn, 1) := by decide +kernel
def fX11_bound (F : Nat) (a0 : Nat) (a1 : Int) (a2 : Int) (a3 : Int) (a4 : Int) (h : HF) : RO :=
  zbd (fX11_refuseDrawer F a0 a1 h) fun r1 h =>
  if r1 = 0 then (
    zrs (a0 + 5) a1 fun x2 =>
    zbd (fX2_gather F (a0 + 94) x2 h) fun _ h =>
    zbd (fX2_has F (a0 + 94) a2 h) fun r4 h =>
    zjn (fun  (h : HF) => (
      some ((-3), h)
    )) fun j50 =>
    if r4 = 0 then (
      j50  h
    ) else (
      zbd (fX2_has F (a0 + 94) a3 h) fun r5 h =>
      if r5 = 0 then (
        j50  h
      ) else (
        zjn (fun (y79_0 : Int) (h : HF) => (
          some (y79_0, h)
        )) fun j79 =>
        if a4 = 0 then (
          zbd (fX2_below F (a0 + 94) a2 a3 h) fun r6 h =>
          j79 r6 h
        ) else (
          zbd (fX2_above F (a0 + 94) a2 a3 h) fun r7 h =>
          j79 r7 h
        )
      )
    )
  ) else (
    some (r1, h)
  )
set_option maxHeartbeats 4000000 in
set_option maxRecDepth 100000 in
theorem mX11_bound (F : Nat) (l : Launch) (g : zG) (B : Nat) (h : HF) (a0 : Nat) (a1 : Int) (a2 : Int) (a3 : Int) (a4 : Int) (ra0 : kt a0 = 14) (ra1 : rng a1) (ra2 : rng a2) (ra3 : rng a3) (ra4 : rng a4) : CTi l g B yX11_bound cX11_bound 6 (some .int) 5 [.ref (B + a0), .int (ii a1), .int (ii a2), .int (ii a3), .int (ii a4)] h (fX11_bound F a0 a1 a2 a3 a4 h) := by
  refine z_enterI (by decide) rfl (Nat.le_of_ble_eq_true rfl) ?_
  intro p e s m args below meth c ls o Q cx hp hl hf hQ
  have hl : lv_has ls 6 [(0, .ref (B + a0)), (1, .int (ii a1)), (2, .int (ii a2)), (3, .int (ii a3)), (4, .int (ii a4))] := hl
  unfold fX11_bound at hf
  refine lv_aload_n cx.1 cx.2.1 dX11_bound_0 rfl (lv_at hl 0 rfl) ?_
  refine lv_iload_n cx.1 cx.2.1 dX11_bound_1 rfl (lv_at hl 1 rfl) ?_
  refine z_ci cx hp (fun o' hx => zrunV (n := 5) (As := [.int (ii a1)]) (rest := []) cx hp (mX11_refuseDrawer F l g B h a0 a1 ra0 ra1 o' hx) 11 ra0 (by decide) rfl vw_X11_refuseDrawer ml_X11_175 (by decide) rfl hl.1 rfl (Nat.le_of_ble_eq_true rfl) dX11_bound_2) hf (fun r1 h H locs rr1 hp hf => ?_)
  refine lv_istore (lv' := [(5, .int (ii r1)), (0, .ref (B + a0)), (1, .int (ii a1)), (2, .int (ii a2)), (3, .int (ii a3)), (4, .int (ii a4))]) cx.1 cx.2.1 dX11_bound_5 hl (by decide) rfl (fun ls hl => ?_)
  refine lv_iload cx.1 cx.2.1 dX11_bound_7 (lv_at hl 0 rfl) ?_
  refine z_if_eq cx rr1 (tgt := 15) dX11_bound_9 (by decide) hf (fun _ hf => ?_) (fun _ hf => ?_)
  · refine lv_aload_n cx.1 cx.2.1 dX11_bound_15 rfl (lv_at hl 1 rfl) ?_
    refine z_gets cx hp (T := TX11) 11 9 (a0 + 94) rfl zin_11 (by decide) (by decide) ra0 rfl fl_X11_67 dX11_bound_16 ?_
    refine lv_aload_n cx.1 cx.2.1 dX11_bound_19 rfl (lv_at hl 1 rfl) ?_
    refine z_gets cx hp (T := TX11) 11 2 (a0 + 5) rfl zin_11 (by decide) (by decide) ra0 rfl fl_X11_23 dX11_bound_20 ?_
    refine lv_iload_n cx.1 cx.2.1 dX11_bound_23 rfl (lv_at hl 2 rfl) ?_
    refine z_aald1 cx hp (zs_11_2 a0 (kt_lt ra0 (by decide)) ra0) ra1 dX11_bound_24 hf (fun x2 rx2 hf => ?_)
    refine z_cv cx hp (fun o' hx => zrunV (n := 5) (As := [.ref (B + x2)]) (rest := []) cx hp (mX2_gather F l g B h (a0 + 94) x2 (zs_11_9 a0 (kt_lt ra0 (by decide)) ra0) rx2 o' hx) 2 (zs_11_9 a0 (kt_lt ra0 (by decide)) ra0) (by decide) rfl vw_X2_gather ml_X11_269 (by decide) rfl hl.1 rfl (Nat.le_of_ble_eq_true rfl) dX11_bound_25) hf (fun _ h H locs hp hf => ?_)
    refine lv_aload_n cx.1 cx.2.1 dX11_bound_28 rfl (lv_at hl 1 rfl) ?_
    refine z_gets cx hp (T := TX11) 11 9 (a0 + 94) rfl zin_11 (by decide) (by decide) ra0 rfl fl_X11_67 dX11_bound_29 ?_
    refine lv_iload_n cx.1 cx.2.1 dX11_bound_32 rfl (lv_at hl 3 rfl) ?_
    refine z_ci cx hp (fun o' hx => zrunV (n := 5) (As := [.int (ii a2)]) (rest := []) cx hp (mX2_has F l g B h (a0 + 94) a2 (zs_11_9 a0 (kt_lt ra0 (by decide)) ra0) ra2 o' hx) 2 (zs_11_9 a0 (kt_lt ra0 (by decide)) ra0) (by decide) rfl vw_X2_has ml_X11_279 (by decide) rfl hl.1 rfl (Nat.le_of_ble_eq_true rfl) dX11_bound_33) hf (fun r4 h H locs rr4 hp hf => ?_)
    refine z_jn hf (fun j => ∀  (h : HF) (H : Heap) (locs : List Loc) (ls : Array Slot), Hp g B s h H locs → lv_has ls 6 [] → j  h = some o → W p l e (rmn 5) s m args below meth c H locs 0 0 Q (F0 m 50 ls [])) ?_ (fun j50 hj50 hf => ?_)
    · intro  h H locs ls  hp hl hf
      refine z_bipush cx (by decide) dX11_bound_50 ?_
      rw [hQ]; exact z_iret cx hp (by decide) dX11_bound_52 hf
    refine z_if_eq cx rr4 (tgt := 50) dX11_bound_36 (by decide) hf (fun _ hf => ?_) (fun _ hf => ?_)
    · exact hj50  h _ _ ls  hp (lv_sub hl [] rfl) hf
    · refine lv_aload_n cx.1 cx.2.1 dX11_bound_39 rfl (lv_at hl 1 rfl) ?_
      refine z_gets cx hp (T := TX11) 11 9 (a0 + 94) rfl zin_11 (by decide) (by decide) ra0 rfl fl_X11_67 dX11_bound_40 ?_
      refine lv_iload_n cx.1 cx.2.1 dX11_bound_43 rfl (lv_at hl 4 rfl) ?_
      refine z_ci cx hp (fun o' hx => zrunV (n := 5) (As := [.int (ii a3)]) (rest := []) cx hp (mX2_has F l g B h (a0 + 94) a3 (zs_11_9 a0 (kt_lt ra0 (by decide)) ra0) ra3 o' hx) 2 (zs_11_9 a0 (kt_lt ra0 (by decide)) ra0) (by decide) rfl vw_X2_has ml_X11_279 (by decide) rfl hl.1 rfl (Nat.le_of_ble_eq_true rfl) dX11_bound_44) hf (fun r5 h H locs rr5 hp hf => ?_)
      refine z_if_ne cx rr5 (tgt := 53) dX11_bound_47 (by decide) hf (fun _ hf => ?_) (fun _ hf => ?_)
      · exact hj50  h _ _ ls  hp (lv_sub hl [] rfl) hf
      · refine lv_iload cx.1 cx.2.1 dX11_bound_53 (lv_at hl 5 rfl) ?_
        refine z_jn hf (fun j => ∀ (y79_0 : Int) (h : HF) (H : Heap) (locs : List Loc) (ls : Array Slot), rng y79_0 → Hp g B s h H locs → lv_has ls 6 [] → j y79_0 h = some o → W p l e (rmn 5) s m args below meth c H locs 0 0 Q (F0 m 79 ls [.int (ii y79_0)])) ?_ (fun j79 hj79 hf => ?_)
        · intro y79_0 h H locs ls ry79_0 hp hl hf
          rw [hQ]; exact z_iret cx hp ry79_0 dX11_bound_79 hf
        refine z_if_eq cx ra4 (tgt := 70) dX11_bound_55 (by decide) hf (fun _ hf => ?_) (fun _ hf => ?_)
        · refine lv_aload_n cx.1 cx.2.1 dX11_bound_70 rfl (lv_at hl 1 rfl) ?_
          refine z_gets cx hp (T := TX11) 11 9 (a0 + 94) rfl zin_11 (by decide) (by decide) ra0 rfl fl_X11_67 dX11_bound_71 ?_
          refine lv_iload_n cx.1 cx.2.1 dX11_bound_74 rfl (lv_at hl 3 rfl) ?_
          refine lv_iload_n cx.1 cx.2.1 dX11_bound_75 rfl (lv_at hl 4 rfl) ?_
          refine z_ci cx hp (fun o' hx => zrunV (n := 5) (As := [.int (ii a2), .int (ii a3)]) (rest := []) cx hp (mX2_below F l g B h (a0 + 94) a2 a3 (zs_11_9 a0 (kt_lt ra0 (by decide)) ra0) ra2 ra3 o' hx) 2 (zs_11_9 a0 (kt_lt ra0 (by decide)) ra0) (by decide) rfl vw_X2_below ml_X11_288 (by decide) rfl hl.1 rfl (Nat.le_of_ble_eq_true rfl) dX11_bound_76) hf (fun r6 h H locs rr6 hp hf => ?_)
          exact hj79 r6 h _ _ ls rr6 hp (lv_sub hl [] rfl) hf
        · refine lv_aload_n cx.1 cx.2.1 dX11_bound_58 rfl (lv_at hl 1 rfl) ?_
          refine z_gets cx hp (T := TX11) 11 9 (a0 + 94) rfl zin_11 (by decide) (by decide) ra0 rfl fl_X11_67 dX11_bound_59 ?_
          refine lv_iload_n cx.1 cx.2.1 dX11_bound_62 rfl (lv_at hl 3 rfl) ?_
          refine lv_iload_n cx.1 cx.2.1 dX11_bound_63 rfl (lv_at hl 4 rfl) ?_
          refine z_ci cx hp (fun o' hx => zrunV (n := 5) (As := [.int (ii a2), .int (ii a3)]) (rest := []) cx hp (mX2_above F l g B h (a0 + 94) a2 a3 (zs_11_9 a0 (kt_lt ra0 (by decide)) ra0) ra2 ra3 o' hx) 2 (zs_11_9 a0 (kt_lt ra0 (by decide)) ra0) (by decide) rfl vw_X2_above ml_X11_285 (by decide) rfl hl.1 rfl (Nat.le_of_ble_eq_true rfl) dX11_bound_64) hf (fun r7 h H locs rr7 hp hf => ?_)
          refine lv_goto (tgt := 79) cx.1 cx.2.1 dX11_bound_67 (by decide) ?_
          exact hj79 r7 h _ _ ls rr7 hp (lv_sub hl [] rfl) hf
  · refine lv_iload cx.1 cx.2.1 dX11_bound_12 (lv_at hl 0 rfl) ?_
    rw [hQ]; exact z_iret cx hp rr1 dX11_bound_14 hf
theorem dX11_quotient_0 : decode cX11_quotient 0 = .ok (.aload_n 0, 1) := by decide +kernel
theorem dX11_quotient_1 : decode cX11_quotient 1 = .ok (.iload_n 1, 1) := by decide +kernel
theorem dX11_quotient_2 : decode cX11_quotient 2 = .ok (.iload_n 3, 1) := by decide +kernel
theorem dX11_quotient_3 : decode cX11_quotient 3 = .ok (.invokevirtual 259, 3) := by decide +kernel
theorem dX11_quotient_6 : decode cX11_quotient 6 = .ok (.istore 4, 2) := by decide +kernel
theorem dX11_quotient_8 : decode cX11_quotient 8 = .ok (.iload 4, 2) := by decide +kernel
theorem dX11_quotient_10 : decode cX11_quotient 10 = .ok (.ifCond .eq 6, 3) := by decide +kernel
theorem dX11_quotient_13 : decode cX11_quotient 13 = .ok (.iload 4, 2) := by decide +kernel
theorem dX11_quotient_15 : decode cX11_quotient 15 = .ok (.ireturn, 1) := by decide +kernel
theorem dX11_quotient_16 : decode cX11_quotient 16 = .ok (.aload_n 0, 1) := by decide +kernel
theorem dX11_quotient_17 : decode cX11_quotient 17 = .ok (.getfield 67, 3) := by decide +kernel
theorem dX11_quotient_20 : decode cX11_quotient 20 = .ok (.aload_n 0, 1) := by decide +kernel
theorem dX11_quotient_21 : decode cX11_quotient 21 = .ok (.getfield 23, 3) := by decide +kernel
theorem dX11_quotient_24 : decode cX11_quotient 24 = .ok (.iload_n 1, 1) := by decide +kernel
theorem dX11_quotient_25 : decode cX11_quotient 25 = .ok (.aaload, 1) := by decide +kernel
theorem dX11_quotient_26 : decode cX11_quotient 26 = .ok (.invokevirtual 269, 3) := by decide +kernel
theorem dX11_quotient_29 : decode cX11_quotient 29 = .ok (.aload_n 0, 1) := by decide +kernel
theorem dX11_quotient_30 : decode cX11_quotient 30 = .ok (.getfield 67, 3) := by decide +kernel
theorem dX11_quotient_33 : decode cX11_quotient 33 = .ok (.iload_n 2, 1) := by decide +kernel
theorem dX11_quotient_34 : decode cX11_quotient 34 = .ok (.invokevirtual 279, 3) := by decide +kernel
theorem dX11_quotient_37 : decode cX11_quotient 37 = .ok (.ifCond .ne 6, 3) := by decide +kernel
theorem dX11_quotient_40 : decode cX11_quotient 40 = .ok (.bipush (-3), 2) := by decide +kernel
theorem dX11_quotient_42 : decode cX11_quotient 42 = .ok (.ireturn, 1) := by decide +kernel
theorem dX11_quotient_43 : decode cX11_quotient 43 = .ok (.aload_n 0, 1) := by decide +kernel
theorem dX11_quotient_44 : decode cX11_quotient 44 = .ok (.getfield 67, 3) := by decide +kernel
theorem dX11_quotient_47 : decode cX11_quotient 47 = .ok (.iload_n 2, 1) := by decide +kernel
theorem dX11_quotient_48 : decode cX11_quotient 48 = .ok (.invokevirtual 291, 3) := by decide +kernel
theorem dX11_quotient_51 : decode cX11_quotient 51 = .ok (.aload_n 0, 1) := by decide +kernel
theorem dX11_quotient_52 : decode cX11_quotient 52 = .ok (.aload_n 0, 1) := by decide +kernel
theorem dX11_quotient_53 : decode cX11_quotient 53 = .ok (.getfield 67, 3) := by decide +kernel
theorem dX11_quotient_56 : decode cX11_quotient 56 = .ok (.getfield 294, 3) := by decide +kernel
theorem dX11_quotient_59 : decode cX11_quotient 59 = .ok (.aload_n 0, 1) := by decide +kernel
theorem dX11_quotient_60 : decode cX11_quotient 60 = .ok (.getfield 23, 3) := by decide +kernel
theorem dX11_quotient_63 : decode cX11_quotient 63 = .ok (.iload_n 1, 1) := by decide +kernel
theorem dX11_quotient_64 : decode cX11_quotient 64 = .ok (.aaload, 1) := by decide +kernel
theorem dX11_quotient_65 : decode cX11_quotient 65 = .ok (.getfield 172, 3) := by decide +kernel
theorem dX11_quotient_68 : decode cX11_quotient 68 = .ok (.invokevirtual 297, 3) := by decide +kernel
theorem dX11_quotient_71 : decode cX11_quotient 71 = .ok (.istore 5, 2) := by decide +kernel
theorem dX11_quotient_73 : decode cX11_quotient 73 = .ok (.aload_n 0, 1) := by decide +kernel
theorem dX11_quotient_74 : decode cX11_quotient 74 = .ok (.getfield 28, 3) := by decide +kernel
theorem dX11_quotient_77 : decode cX11_quotient 77 = .ok (.aload_n 0, 1) := by decide +kernel
theorem dX11_quotient_78 : decode cX11_quotient 78 = .ok (.getfield 23, 3) := by decide +kernel
theorem dX11_quotient_81 : decode cX11_quotient 81 = .ok (.iload_n 1, 1) := by decide +kernel
theorem dX11_quotient_82 : decode cX11_quotient 82 = .ok (.aaload, 1) := by decide +kernel
theorem dX11_quotient_83 : decode cX11_quotient 83 = .ok (.iload 5, 2) := by decide +kernel
theorem dX11_quotient_85 : decode cX11_quotient 85 = .ok (.aload_n 0, 1) := by decide +kernel
theorem dX11_quotient_86 : decode cX11_quotient 86 = .ok (.getfield 101, 3) := by decide +kernel
theorem dX11_quotient_89 : decode cX11_quotient 89 = .ok (.aload_n 0, 1) := by decide +kernel
theorem dX11_quotient_90 : decode cX11_quotient 90 = .ok (.getfield 105, 3) := by decide +kernel
theorem dX11_quotient_93 : decode cX11_quotient 93 = .ok (.invokevirtual 265, 3) := by decide +kernel
theorem dX11_quotient_96 : decode cX11_quotient 96 = .ok (.aload_n 0, 1) := by decide +kernel
theorem dX11_quotient_97 : decode cX11_quotient 97 = .ok (.iload_n 3, 1) := by decide +kernel
theorem dX11_quotient_98 : decode cX11_quotient 98 = .ok (.invokevirtual 134, 3) := by decide +kernel
theorem dX11_quotient_101 : decode cX11_quotient 101 = .ok (.aload_n 0, 1) := by decide +kernel
theorem dX11_quotient_102 : decode cX11_quotient 102 = .ok (.getfield 28, 3) := by decide +kernel
theorem dX11_quotient_105 : decode cX11_quotient 105 = .ok (.getfield 172, 3) := by decide +kernel
theorem dX11_quotient_108 : decode cX11_quotient 108 = .ok (.ireturn, 1) := by decide +kernel
def fX11_quotient (F : Nat) (a0 : Nat) (a1 : Int) (a2 : Int) (a3 : Int) (h : HF) : RO :=
  zbd (fX11_refuseSource F a0 a1 a3 h) fun r1 h =>
  if r1 = 0 then (
    zrs (a0 + 5) a1 fun x2 =>
    zbd (fX2_gather F (a0 + 94) x2 h) fun _ h =>
    zbd (fX2_has F (a0 + 94) a2 h) fun r4 h =>
    if r4 = 0 then (
      some ((-3), h)
    ) else (
      zbd (fX2_choose F (a0 + 94) a2 h) fun _ h =>
      zrs (a0 + 5) a1 fun x6 =>
      zgf h x6 0 fun x7 =>
      zbd (fX11_numberClasses F a0 ((a0 + 94) + 2) x7 h) fun r8 h =>
      zrs (a0 + 5) a1 fun x9 =>
      zbd (fX0_becomeImage F (a0 + 6) x9 r8 (a0 + 115) (a0 + 116) h) fun _ h =>
      zbd (fX11_putDraft F a0 a3 h) fun _ h =>
      zgf h (a0 + 6) 0 fun x12 =>
      some (x12, h)
    )
  ) else (
    some (r1, h)
  )
set_option maxHeartbeats 4000000 in
set_option maxRecDepth 100000 in
theorem mX11_quotient (F : Nat) (l : Launch) (g : zG) (B : Nat) (h : HF) (a0 : Nat) (a1 : Int) (a2 : Int) (a3 : Int) (ra0 : kt a0 = 14) (ra1 : rng a1) (ra2 : rng a2) (ra3 : rng a3) : CTi l g B yX11_quotient cX11_quotient 6 (some .int) 5 [.ref (B + a0), .int (ii a1), .int (ii a2), .int (ii a3)] h (fX11_quotient F a0 a1 a2 a3 h) := by
  refine z_enterI (by decide) rfl (Nat.le_of_ble_eq_true rfl) ?_
  intro p e s m args below meth c ls o Q cx hp hl hf hQ
  have hl : lv_has ls 6 [(0, .ref (B + a0)), (1, .int (ii a1)), (2, .int (ii a2)), (3, .int (ii a3))] := hl
  unfold fX11_quotient at hf
  refine lv_aload_n cx.1 cx.2.1 dX11_quotient_0 rfl (lv_at hl 0 rfl) ?_
  refine lv_iload_n cx.1 cx.2.1 dX11_quotient_1 rfl (lv_at hl 1 rfl) ?_
  refine lv_iload_n cx.1 cx.2.1 dX11_quotient_2 rfl (lv_at hl 3 rfl) ?_
  refine z_ci cx hp (fun o' hx => zrunV (n := 5) (As := [.int (ii a1), .int (ii a3)]) (rest := []) cx hp (mX11_refuseSource F l g B h a0 a1 a3 ra0 ra1 ra3 o' hx) 11 ra0 (by decide) rfl vw_X11_refuseSource ml_X11_259 (by decide) rfl hl.1 rfl (Nat.le_of_ble_eq_true rfl) dX11_quotient_3) hf (fun r1 h H locs rr1 hp hf => ?_)
  refine lv_istore (lv' := [(4, .int (ii r1)), (0, .ref (B + a0)), (1, .int (ii a1)), (2, .int (ii a2)), (3, .int (ii a3))]) cx.1 cx.2.1 dX11_quotient_6 hl (by decide) rfl (fun ls hl => ?_)
  refine lv_iload cx.1 cx.2.1 dX11_quotient_8 (lv_at hl 0 rfl) ?_
  refine z_if_eq cx rr1 (tgt := 16) dX11_quotient_10 (by decide) hf (fun _ hf => ?_) (fun _ hf => ?_)
  · refine lv_aload_n cx.1 cx.2.1 dX11_quotient_16 rfl (lv_at hl 1 rfl) ?_
    refine z_gets cx hp (T := TX11) 11 9 (a0 + 94) rfl zin_11 (by decide) (by decide) ra0 rfl fl_X11_67 dX11_quotient_17 ?_
    refine lv_aload_n cx.1 cx.2.1 dX11_quotient_20 rfl (lv_at hl 1 rfl) ?_
    refine z_gets cx hp (T := TX11) 11 2 (a0 + 5) rfl zin_11 (by decide) (by decide) ra0 rfl fl_X11_23 dX11_quotient_21 ?_
    refine lv_iload_n cx.1 cx.2.1 dX11_quotient_24 rfl (lv_at hl 2 rfl) ?_
    refine z_aald1 cx hp (zs_11_2 a0 (kt_lt ra0 (by decide)) ra0) ra1 dX11_quotient_25 hf (fun x2 rx2 hf => ?_)
    refine z_cv cx hp (fun o' hx => zrunV (n := 5) (As := [.ref (B + x2)]) (rest := []) cx hp (mX2_gather F l g B h (a0 + 94) x2 (zs_11_9 a0 (kt_lt ra0 (by decide)) ra0) rx2 o' hx) 2 (zs_11_9 a0 (kt_lt ra0 (by decide)) ra0) (by decide) rfl vw_X2_gather ml_X11_269 (by decide) rfl hl.1 rfl (Nat.le_of_ble_eq_true rfl) dX11_quotient_26) hf (fun _ h H locs hp hf => ?_)
    refine lv_aload_n cx.1 cx.2.1 dX11_quotient_29 rfl (lv_at hl 1 rfl) ?_
    refine z_gets cx hp (T := TX11) 11 9 (a0 + 94) rfl zin_11 (by decide) (by decide) ra0 rfl fl_X11_67 dX11_quotient_30 ?_
    refine lv_iload_n cx.1 cx.2.1 dX11_quotient_33 rfl (lv_at hl 3 rfl) ?_
    refine z_ci cx hp (fun o' hx => zrunV (n := 5) (As := [.int (ii a2)]) (rest := []) cx hp (mX2_has F l g B h (a0 + 94) a2 (zs_11_9 a0 (kt_lt ra0 (by decide)) ra0) ra2 o' hx) 2 (zs_11_9 a0 (kt_lt ra0 (by decide)) ra0) (by decide) rfl vw_X2_has ml_X11_279 (by decide) rfl hl.1 rfl (Nat.le_of_ble_eq_true rfl) dX11_quotient_34) hf (fun r4 h H locs rr4 hp hf => ?_)
    refine z_if_ne cx rr4 (tgt := 43) dX11_quotient_37 (by decide) hf (fun _ hf => ?_) (fun _ hf => ?_)
    · refine z_bipush cx (by decide) dX11_quotient_40 ?_
      rw [hQ]; exact z_iret cx hp (by decide) dX11_quotient_42 hf
    · refine lv_aload_n cx.1 cx.2.1 dX11_quotient_43 rfl (lv_at hl 1 rfl) ?_
      refine z_gets cx hp (T := TX11) 11 9 (a0 + 94) rfl zin_11 (by decide) (by decide) ra0 rfl fl_X11_67 dX11_quotient_44 ?_
      refine lv_iload_n cx.1 cx.2.1 dX11_quotient_47 rfl (lv_at hl 3 rfl) ?_
      refine z_cv cx hp (fun o' hx => zrunV (n := 5) (As := [.int (ii a2)]) (rest := []) cx hp (mX2_choose F l g B h (a0 + 94) a2 (zs_11_9 a0 (kt_lt ra0 (by decide)) ra0) ra2 o' hx) 2 (zs_11_9 a0 (kt_lt ra0 (by decide)) ra0) (by decide) rfl vw_X2_choose ml_X11_291 (by decide) rfl hl.1 rfl (Nat.le_of_ble_eq_true rfl) dX11_quotient_48) hf (fun _ h H locs hp hf => ?_)
      refine lv_aload_n cx.1 cx.2.1 dX11_quotient_51 rfl (lv_at hl 1 rfl) ?_
      refine lv_aload_n cx.1 cx.2.1 dX11_quotient_52 rfl (lv_at hl 1 rfl) ?_
      refine z_gets cx hp (T := TX11) 11 9 (a0 + 94) rfl zin_11 (by decide) (by decide) ra0 rfl fl_X11_67 dX11_quotient_53 ?_
      refine z_gets cx hp (T := TX2) 2 2 ((a0 + 94) + 2) rfl zin_2 (by decide) (by decide) (zs_11_9 a0 (kt_lt ra0 (by decide)) ra0) rfl fl_X11_294 dX11_quotient_56 ?_
      refine lv_aload_n cx.1 cx.2.1 dX11_quotient_59 rfl (lv_at hl 1 rfl) ?_
      refine z_gets cx hp (T := TX11) 11 2 (a0 + 5) rfl zin_11 (by decide) (by decide) ra0 rfl fl_X11_23 dX11_quotient_60 ?_
      refine lv_iload_n cx.1 cx.2.1 dX11_quotient_63 rfl (lv_at hl 2 rfl) ?_
      refine z_aald1 cx hp (zs_11_2 a0 (kt_lt ra0 (by decide)) ra0) ra1 dX11_quotient_64 hf (fun x6 rx6 hf => ?_)
      refine z_geti cx hp (T := TX0) 0 0 rfl zin_0 (by decide) (by decide) rx6 rfl fl_X11_172 dX11_quotient_65 hf (fun x7 rx7 hf => ?_)
      refine z_ci cx hp (fun o' hx => zrunV (n := 5) (As := [.ref (B + ((a0 + 94) + 2)), .int (ii x7)]) (rest := []) cx hp (mX11_numberClasses F l g B h a0 ((a0 + 94) + 2) x7 ra0 (zs_2_2 (a0 + 94) (kt_lt (zs_11_9 a0 (kt_lt ra0 (by decide)) ra0) (by decide)) (zs_11_9 a0 (kt_lt ra0 (by decide)) ra0)) rx7 o' hx) 11 ra0 (by decide) rfl vw_X11_numberClasses ml_X11_297 (by decide) rfl hl.1 rfl (Nat.le_of_ble_eq_true rfl) dX11_quotient_68) hf (fun r8 h H locs rr8 hp hf => ?_)
      refine lv_istore (lv' := [(5, .int (ii r8)), (4, .int (ii r1)), (0, .ref (B + a0)), (1, .int (ii a1)), (2, .int (ii a2)), (3, .int (ii a3))]) cx.1 cx.2.1 dX11_quotient_71 hl (by decide) rfl (fun ls hl => ?_)
      refine lv_aload_n cx.1 cx.2.1 dX11_quotient_73 rfl (lv_at hl 2 rfl) ?_
      refine z_gets cx hp (T := TX11) 11 3 (a0 + 6) rfl zin_11 (by decide) (by decide) ra0 rfl fl_X11_28 dX11_quotient_74 ?_
      refine lv_aload_n cx.1 cx.2.1 dX11_quotient_77 rfl (lv_at hl 2 rfl) ?_
      refine z_gets cx hp (T := TX11) 11 2 (a0 + 5) rfl zin_11 (by decide) (by decide) ra0 rfl fl_X11_23 dX11_quotient_78 ?_
      refine lv_iload_n cx.1 cx.2.1 dX11_quotient_81 rfl (lv_at hl 3 rfl) ?_
      refine z_aald1 cx hp (zs_11_2 a0 (kt_lt ra0 (by decide)) ra0) ra1 dX11_quotient_82 hf (fun x9 rx9 hf => ?_)
      refine lv_iload cx.1 cx.2.1 dX11_quotient_83 (lv_at hl 0 rfl) ?_
      refine lv_aload_n cx.1 cx.2.1 dX11_quotient_85 rfl (lv_at hl 2 rfl) ?_
      refine z_gets cx hp (T := TX11) 11 14 (a0 + 115) rfl zin_11 (by decide) (by decide) ra0 rfl fl_X11_101 dX11_quotient_86 ?_
      refine lv_aload_n cx.1 cx.2.1 dX11_quotient_89 rfl (lv_at hl 2 rfl) ?_
      refine z_gets cx hp (T := TX11) 11 15 (a0 + 116) rfl zin_11 (by decide) (by decide) ra0 rfl fl_X11_105 dX11_quotient_90 ?_
      refine z_cv cx hp (fun o' hx => zrunV (n := 5) (As := [.ref (B + x9), .int (ii r8), .ref (B + (a0 + 115)), .ref (B + (a0 + 116))]) (rest := []) cx hp (mX0_becomeImage F l g B h (a0 + 6) x9 r8 (a0 + 115) (a0 + 116) (zs_11_3 a0 (kt_lt ra0 (by decide)) ra0) rx9 rr8 (zs_11_14 a0 (kt_lt ra0 (by decide)) ra0) (zs_11_15 a0 (kt_lt ra0 (by decide)) ra0) o' hx) 0 (zs_11_3 a0 (kt_lt ra0 (by decide)) ra0) (by decide) rfl vw_X0_becomeImage ml_X11_265 (by decide) rfl hl.1 rfl (Nat.le_of_ble_eq_true rfl) dX11_quotient_93) hf (fun _ h H locs hp hf => ?_)
      refine lv_aload_n cx.1 cx.2.1 dX11_quotient_96 rfl (lv_at hl 2 rfl) ?_
      refine lv_iload_n cx.1 cx.2.1 dX11_quotient_97 rfl (lv_at hl 5 rfl) ?_
      refine z_cv cx hp (fun o' hx => zrunV (n := 5) (As := [.int (ii a3)]) (rest := []) cx hp (mX11_putDraft F l g B h a0 a3 ra0 ra3 o' hx) 11 ra0 (by decide) rfl vw_X11_putDraft ml_X11_134 (by decide) rfl hl.1 rfl (Nat.le_of_ble_eq_true rfl) dX11_quotient_98) hf (fun _ h H locs hp hf => ?_)
      refine lv_aload_n cx.1 cx.2.1 dX11_quotient_101 rfl (lv_at hl 2 rfl) ?_
      refine z_gets cx hp (T := TX11) 11 3 (a0 + 6) rfl zin_11 (by decide) (by decide) ra0 rfl fl_X11_28 dX11_quotient_102 ?_
      refine z_geti cx hp (T := TX0) 0 0 rfl zin_0 (by decide) (by decide) (zs_11_3 a0 (kt_lt ra0 (by decide)) ra0) rfl fl_X11_172 dX11_quotient_105 hf (fun x12 rx12 hf => ?_)
      rw [hQ]; exact z_iret cx hp rx12 dX11_quotient_108 hf
  · refine lv_iload cx.1 cx.2.1 dX11_quotient_13 (lv_at hl 0 rfl) ?_
    rw [hQ]; exact z_iret cx hp rr1 dX11_quotient_15 hf
theorem dX11_least_0 : decode cX11_least 0 = .ok (.aload_n 0, 1) := by decide +kernel
theorem dX11_least_1 : decode cX11_least 1 = .ok (.iload_n 1, 1) := by decide +kernel
theorem dX11_least_2 : decode cX11_least 2 = .ok (.iload_n 2, 1) := by decide +kernel
theorem dX11_least_3 : decode cX11_least 3 = .ok (.invokevirtual 259, 3) := by decide +kernel
theorem dX11_least_6 : decode cX11_least 6 = .ok (.istore_n 3, 1) := by decide +kernel
theorem dX11_least_7 : decode cX11_least 7 = .ok (.iload_n 3, 1) := by decide +kernel
theorem dX11_least_8 : decode cX11_least 8 = .ok (.ifCond .eq 5, 3) := by decide +kernel
theorem dX11_least_11 : decode cX11_least 11 = .ok (.iload_n 3, 1) := by decide +kernel
theorem dX11_least_12 : decode cX11_least 12 = .ok (.ireturn, 1) := by decide +kernel
theorem dX11_least_13 : decode cX11_least 13 = .ok (.aload_n 0, 1) := by decide +kernel
theorem dX11_least_14 : decode cX11_least 14 = .ok (.getfield 23, 3) := by decide +kernel
theorem dX11_least_17 : decode cX11_least 17 = .ok (.iload_n 1, 1) := by decide +kernel
theorem dX11_least_18 : decode cX11_least 18 = .ok (.aaload, 1) := by decide +kernel
theorem dX11_least_19 : decode cX11_least 19 = .ok (.astore 4, 2) := by decide +kernel
theorem dX11_least_21 : decode cX11_least 21 = .ok (.aload_n 0, 1) := by decide +kernel
theorem dX11_least_22 : decode cX11_least 22 = .ok (.getfield 81, 3) := by decide +kernel
theorem dX11_least_25 : decode cX11_least 25 = .ok (.aload 4, 2) := by decide +kernel
theorem dX11_least_27 : decode cX11_least 27 = .ok (.iconst 0, 1) := by decide +kernel
theorem dX11_least_28 : decode cX11_least 28 = .ok (.invokevirtual 316, 3) := by decide +kernel
theorem dX11_least_31 : decode cX11_least 31 = .ok (.pop, 1) := by decide +kernel
theorem dX11_least_32 : decode cX11_least 32 = .ok (.aload_n 0, 1) := by decide +kernel
theorem dX11_least_33 : decode cX11_least 33 = .ok (.getfield 28, 3) := by decide +kernel
theorem dX11_least_36 : decode cX11_least 36 = .ok (.aload 4, 2) := by decide +kernel
theorem dX11_least_38 : decode cX11_least 38 = .ok (.aload 4, 2) := by decide +kernel
theorem dX11_least_40 : decode cX11_least 40 = .ok (.getfield 172, 3) := by decide +kernel
theorem dX11_least_43 : decode cX11_least 43 = .ok (.aload_n 0, 1) := by decide +kernel
theorem dX11_least_44 : decode cX11_least 44 = .ok (.getfield 81, 3) := by decide +kernel
theorem dX11_least_47 : decode cX11_least 47 = .ok (.getfield 319, 3) := by decide +kernel
theorem dX11_least_50 : decode cX11_least 50 = .ok (.aload_n 0, 1) := by decide +kernel
theorem dX11_least_51 : decode cX11_least 51 = .ok (.getfield 81, 3) := by decide +kernel
theorem dX11_least_54 : decode cX11_least 54 = .ok (.getfield 322, 3) := by decide +kernel
theorem dX11_least_57 : decode cX11_least 57 = .ok (.invokevirtual 265, 3) := by decide +kernel
theorem dX11_least_60 : decode cX11_least 60 = .ok (.aload_n 0, 1) := by decide +kernel
theorem dX11_least_61 : decode cX11_least 61 = .ok (.iload_n 2, 1) := by decide +kernel
theorem dX11_least_62 : decode cX11_least 62 = .ok (.invokevirtual 134, 3) := by decide +kernel
theorem dX11_least_65 : decode cX11_least 65 = .ok (.aload_n 0, 1) := by decide +kernel
theorem dX11_least_66 : decode cX11_least 66 = .ok (.getfield 81, 3) := by decide +kernel
theorem dX11_least_69 : decode cX11_least 69 = .ok (.getfield 325, 3) := by decide +kernel
theorem dX11_least_72 : decode cX11_least 72 = .ok (.ireturn, 1) := by decide +kernel
def fX11_least (F : Nat) (a0 : Nat) (a1 : Int) (a2 : Int) (h : HF) : RO :=
  zbd (fX11_refuseSource F a0 a1 a2 h) fun r1 h =>
  if r1 = 0 then (
    zrs (a0 + 5) a1 fun x2 =>
    zbd (fX6_seek F (a0 + 105) x2 0 h) fun r3 h =>
    zgf h x2 0 fun x4 =>
    zbd (fX0_becomeImage F (a0 + 6) x2 x4 ((a0 + 105) + 1) ((a0 + 105) + 2) h) fun _ h =>
    zbd (fX11_putDraft F a0 a2 h) fun _ h =>
    zgf h (a0 + 105) 2 fun x7 =>
    some (x7, h)
  ) else (
    some (r1, h)
  )
set_option maxHeartbeats 4000000 in
set_option maxRecDepth 100000 in
theorem mX11_least (F : Nat) (l : Launch) (g : zG) (B : Nat) (h : HF) (a0 : Nat) (a1 : Int) (a2 : Int) (ra0 : kt a0 = 14) (ra1 : rng a1) (ra2 : rng a2) : CTi l g B yX11_least cX11_least 5 (some .int) 5 [.ref (B + a0), .int (ii a1), .int (ii a2)] h (fX11_least F a0 a1 a2 h) := by
  refine z_enterI (by decide) rfl (Nat.le_of_ble_eq_true rfl) ?_
  intro p e s m args below meth c ls o Q cx hp hl hf hQ
  have hl : lv_has ls 5 [(0, .ref (B + a0)), (1, .int (ii a1)), (2, .int (ii a2))] := hl
  unfold fX11_least at hf
  refine lv_aload_n cx.1 cx.2.1 dX11_least_0 rfl (lv_at hl 0 rfl) ?_
  refine lv_iload_n cx.1 cx.2.1 dX11_least_1 rfl (lv_at hl 1 rfl) ?_
  refine lv_iload_n cx.1 cx.2.1 dX11_least_2 rfl (lv_at hl 2 rfl) ?_
  refine z_ci cx hp (fun o' hx => zrunV (n := 5) (As := [.int (ii a1), .int (ii a2)]) (rest := []) cx hp (mX11_refuseSource F l g B h a0 a1 a2 ra0 ra1 ra2 o' hx) 11 ra0 (by decide) rfl vw_X11_refuseSource ml_X11_259 (by decide) rfl hl.1 rfl (Nat.le_of_ble_eq_true rfl) dX11_least_3) hf (fun r1 h H locs rr1 hp hf => ?_)
  refine lv_istore_n (lv' := [(3, .int (ii r1)), (0, .ref (B + a0)), (1, .int (ii a1)), (2, .int (ii a2))]) cx.1 cx.2.1 dX11_least_6 rfl hl (by decide) rfl (fun ls hl => ?_)
  refine lv_iload_n cx.1 cx.2.1 dX11_least_7 rfl (lv_at hl 0 rfl) ?_
  refine z_if_eq cx rr1 (tgt := 13) dX11_least_8 (by decide) hf (fun _ hf => ?_) (fun _ hf => ?_)
  · refine lv_aload_n cx.1 cx.2.1 dX11_least_13 rfl (lv_at hl 1 rfl) ?_
    refine z_gets cx hp (T := TX11) 11 2 (a0 + 5) rfl zin_11 (by decide) (by decide) ra0 rfl fl_X11_23 dX11_least_14 ?_
    refine lv_iload_n cx.1 cx.2.1 dX11_least_17 rfl (lv_at hl 2 rfl) ?_
    refine z_aald1 cx hp (zs_11_2 a0 (kt_lt ra0 (by decide)) ra0) ra1 dX11_least_18 hf (fun x2 rx2 hf => ?_)
    refine lv_astore (lv' := [(4, .ref (B + x2)), (3, .int (ii r1)), (0, .ref (B + a0)), (1, .int (ii a1)), (2, .int (ii a2))]) cx.1 cx.2.1 dX11_least_19 hl (by decide) rfl (fun ls hl => ?_)
    refine lv_aload_n cx.1 cx.2.1 dX11_least_21 rfl (lv_at hl 2 rfl) ?_
    refine z_gets cx hp (T := TX11) 11 11 (a0 + 105) rfl zin_11 (by decide) (by decide) ra0 rfl fl_X11_81 dX11_least_22 ?_
    refine lv_aload cx.1 cx.2.1 dX11_least_25 (lv_at hl 0 rfl) ?_
    refine z_iconst cx dX11_least_27 ?_
    refine z_ci cx hp (fun o' hx => zrunV (n := 5) (As := [.ref (B + x2), .int (ii 0)]) (rest := []) cx hp (mX6_seek F l g B h (a0 + 105) x2 0 (zs_11_11 a0 (kt_lt ra0 (by decide)) ra0) rx2 (by decide) o' hx) 6 (zs_11_11 a0 (kt_lt ra0 (by decide)) ra0) (by decide) rfl vw_X6_seek ml_X11_316 (by decide) rfl hl.1 rfl (Nat.le_of_ble_eq_true rfl) dX11_least_28) hf (fun r3 h H locs rr3 hp hf => ?_)
    refine lv_pop cx.1 cx.2.1 dX11_least_31 rfl ?_
    refine lv_aload_n cx.1 cx.2.1 dX11_least_32 rfl (lv_at hl 2 rfl) ?_
    refine z_gets cx hp (T := TX11) 11 3 (a0 + 6) rfl zin_11 (by decide) (by decide) ra0 rfl fl_X11_28 dX11_least_33 ?_
    refine lv_aload cx.1 cx.2.1 dX11_least_36 (lv_at hl 0 rfl) ?_
    refine lv_aload cx.1 cx.2.1 dX11_least_38 (lv_at hl 0 rfl) ?_
    refine z_geti cx hp (T := TX0) 0 0 rfl zin_0 (by decide) (by decide) rx2 rfl fl_X11_172 dX11_least_40 hf (fun x4 rx4 hf => ?_)
    refine lv_aload_n cx.1 cx.2.1 dX11_least_43 rfl (lv_at hl 2 rfl) ?_
    refine z_gets cx hp (T := TX11) 11 11 (a0 + 105) rfl zin_11 (by decide) (by decide) ra0 rfl fl_X11_81 dX11_least_44 ?_
    refine z_gets cx hp (T := TX6) 6 0 ((a0 + 105) + 1) rfl zin_6 (by decide) (by decide) (zs_11_11 a0 (kt_lt ra0 (by decide)) ra0) rfl fl_X11_319 dX11_least_47 ?_
    refine lv_aload_n cx.1 cx.2.1 dX11_least_50 rfl (lv_at hl 2 rfl) ?_
    refine z_gets cx hp (T := TX11) 11 11 (a0 + 105) rfl zin_11 (by decide) (by decide) ra0 rfl fl_X11_81 dX11_least_51 ?_
    refine z_gets cx hp (T := TX6) 6 1 ((a0 + 105) + 2) rfl zin_6 (by decide) (by decide) (zs_11_11 a0 (kt_lt ra0 (by decide)) ra0) rfl fl_X11_322 dX11_least_54 ?_
    refine z_cv cx hp (fun o' hx => zrunV (n := 5) (As := [.ref (B + x2), .int (ii x4), .ref (B + ((a0 + 105) + 1)), .ref (B + ((a0 + 105) + 2))]) (rest := []) cx hp (mX0_becomeImage F l g B h (a0 + 6) x2 x4 ((a0 + 105) + 1) ((a0 + 105) + 2) (zs_11_3 a0 (kt_lt ra0 (by decide)) ra0) rx2 rx4 (zs_6_0 (a0 + 105) (kt_lt (zs_11_11 a0 (kt_lt ra0 (by decide)) ra0) (by decide)) (zs_11_11 a0 (kt_lt ra0 (by decide)) ra0)) (zs_6_1 (a0 + 105) (kt_lt (zs_11_11 a0 (kt_lt ra0 (by decide)) ra0) (by decide)) (zs_11_11 a0 (kt_lt ra0 (by decide)) ra0)) o' hx) 0 (zs_11_3 a0 (kt_lt ra0 (by decide)) ra0) (by decide) rfl vw_X0_becomeImage ml_X11_265 (by decide) rfl hl.1 rfl (Nat.le_of_ble_eq_true rfl) dX11_least_57) hf (fun _ h H locs hp hf => ?_)
    refine lv_aload_n cx.1 cx.2.1 dX11_least_60 rfl (lv_at hl 2 rfl) ?_
    refine lv_iload_n cx.1 cx.2.1 dX11_least_61 rfl (lv_at hl 4 rfl) ?_
    refine z_cv cx hp (fun o' hx => zrunV (n := 5) (As := [.int (ii a2)]) (rest := []) cx hp (mX11_putDraft F l g B h a0 a2 ra0 ra2 o' hx) 11 ra0 (by decide) rfl vw_X11_putDraft ml_X11_134 (by decide) rfl hl.1 rfl (Nat.le_of_ble_eq_true rfl) dX11_least_62) hf (fun _ h H locs hp hf => ?_)
    refine lv_aload_n cx.1 cx.2.1 dX11_least_65 rfl (lv_at hl 2 rfl) ?_
    refine z_gets cx hp (T := TX11) 11 11 (a0 + 105) rfl zin_11 (by decide) (by decide) ra0 rfl fl_X11_81 dX11_least_66 ?_
    refine z_geti cx hp (T := TX6) 6 2 rfl zin_6 (by decide) (by decide) (zs_11_11 a0 (kt_lt ra0 (by decide)) ra0) rfl fl_X11_325 dX11_least_69 hf (fun x7 rx7 hf => ?_)
    rw [hQ]; exact z_iret cx hp rx7 dX11_least_72 hf
  · refine lv_iload_n cx.1 cx.2.1 dX11_least_11 rfl (lv_at hl 0 rfl) ?_
    rw [hQ]; exact z_iret cx hp rr1 dX11_least_12 hf
theorem dX11_product_0 : decode cX11_product 0 = .ok (.iload_n 3, 1) := by decide +kernel
theorem dX11_product_1 : decode cX11_product 1 = .ok (.invokestatic 123, 3) := by decide +kernel
theorem dX11_product_4 : decode cX11_product 4 = .ok (.ifCond .ne 6, 3) := by decide +kernel
theorem dX11_product_7 : decode cX11_product 7 = .ok (.bipush (-3), 2) := by decide +kernel
theorem dX11_product_9 : decode cX11_product 9 = .ok (.ireturn, 1) := by decide +kernel
theorem dX11_product_10 : decode cX11_product 10 = .ok (.aload_n 0, 1) := by decide +kernel
theorem dX11_product_11 : decode cX11_product 11 = .ok (.iload_n 1, 1) := by decide +kernel
theorem dX11_product_12 : decode cX11_product 12 = .ok (.iload_n 2, 1) := by decide +kernel
theorem dX11_product_13 : decode cX11_product 13 = .ok (.invokevirtual 301, 3) := by decide +kernel
theorem dX11_product_16 : decode cX11_product 16 = .ok (.istore 4, 2) := by decide +kernel
theorem dX11_product_18 : decode cX11_product 18 = .ok (.iload 4, 2) := by decide +kernel
theorem dX11_product_20 : decode cX11_product 20 = .ok (.ifCond .eq 6, 3) := by decide +kernel
theorem dX11_product_23 : decode cX11_product 23 = .ok (.iload 4, 2) := by decide +kernel
theorem dX11_product_25 : decode cX11_product 25 = .ok (.ireturn, 1) := by decide +kernel
theorem dX11_product_26 : decode cX11_product 26 = .ok (.aload_n 0, 1) := by decide +kernel
theorem dX11_product_27 : decode cX11_product 27 = .ok (.getfield 23, 3) := by decide +kernel
theorem dX11_product_30 : decode cX11_product 30 = .ok (.iload_n 1, 1) := by decide +kernel
theorem dX11_product_31 : decode cX11_product 31 = .ok (.aaload, 1) := by decide +kernel
theorem dX11_product_32 : decode cX11_product 32 = .ok (.astore 5, 2) := by decide +kernel
theorem dX11_product_34 : decode cX11_product 34 = .ok (.aload_n 0, 1) := by decide +kernel
theorem dX11_product_35 : decode cX11_product 35 = .ok (.getfield 23, 3) := by decide +kernel
theorem dX11_product_38 : decode cX11_product 38 = .ok (.iload_n 2, 1) := by decide +kernel
theorem dX11_product_39 : decode cX11_product 39 = .ok (.aaload, 1) := by decide +kernel
theorem dX11_product_40 : decode cX11_product 40 = .ok (.astore 6, 2) := by decide +kernel
theorem dX11_product_42 : decode cX11_product 42 = .ok (.aload 5, 2) := by decide +kernel
theorem dX11_product_44 : decode cX11_product 44 = .ok (.getfield 172, 3) := by decide +kernel
theorem dX11_product_47 : decode cX11_product 47 = .ok (.aload 6, 2) := by decide +kernel
theorem dX11_product_49 : decode cX11_product 49 = .ok (.getfield 172, 3) := by decide +kernel
theorem dX11_product_52 : decode cX11_product 52 = .ok (.imul, 1) := by decide +kernel
theorem dX11_product_53 : decode cX11_product 53 = .ok (.bipush 7, 2) := by decide +kernel
theorem dX11_product_55 : decode cX11_product 55 = .ok (.if_icmp .le 6, 3) := by decide +kernel
theorem dX11_product_58 : decode cX11_product 58 = .ok (.bipush (-4), 2) := by decide +kernel
theorem dX11_product_60 : decode cX11_product 60 = .ok (.ireturn, 1) := by decide +kernel
theorem dX11_product_61 : decode cX11_product 61 = .ok (.aload_n 0, 1) := by decide +kernel
theorem dX11_product_62 : decode cX11_product 62 = .ok (.getfield 28, 3) := by decide +kernel
theorem dX11_product_65 : decode cX11_product 65 = .ok (.aload 5, 2) := by decide +kernel
theorem dX11_product_67 : decode cX11_product 67 = .ok (.aload 6, 2) := by decide +kernel
theorem dX11_product_69 : decode cX11_product 69 = .ok (.invokevirtual 328, 3) := by decide +kernel
theorem dX11_product_72 : decode cX11_product 72 = .ok (.aload_n 0, 1) := by decide +kernel
theorem dX11_product_73 : decode cX11_product 73 = .ok (.iload_n 3, 1) := by decide +kernel
theorem dX11_product_74 : decode cX11_product 74 = .ok (.invokevirtual 134, 3) := by decide +kernel
theorem dX11_product_77 : decode cX11_product 77 = .ok (.aload_n 0, 1) := by decide +kernel
theorem dX11_product_78 : decode cX11_product 78 = .ok (.getfield 28, 3) := by decide +kernel
theorem dX11_product_81 : decode cX11_product 81 = .ok (.getfield 172, 3) := by decide +kernel
theorem dX11_product_84 : decode cX11_product 84 = .ok (.ireturn, 1) := by decide +kernel
def fX11_product (F : Nat) (a0 : Nat) (a1 : Int) (a2 : Int) (a3 : Int) (h : HF) : RO :=
  zbd (fX11_isDrawer F a3 h) fun r1 h =>
  if r1 = 0 then (
    some ((-3), h)
  ) else (
    zbd (fX11_refusePair F a0 a1 a2 h) fun r2 h =>
    if r2 = 0 then (
      zrs (a0 + 5) a1 fun x3 =>
      zrs (a0 + 5) a2 fun x4 =>
      zgf h x3 0 fun x5 =>
      zgf h x4 0 fun x6 =>
      if 7 < wr (x5 * x6) then (
        some ((-4), h)
      ) else (
        zbd (fX0_becomeProduct F (a0 + 6) x3 x4 h) fun _ h =>
        zbd (fX11_putDraft F a0 a3 h) fun _ h =>
        zgf h (a0 + 6) 0 fun x9 =>
        some (x9, h)
      )
    ) else (
      some (r2, h)
    )
  )
set_option maxHeartbeats 4000000 in
set_option maxRecDepth 100000 in
theorem mX11_product (F : Nat) (l : Launch) (g : zG) (B : Nat) (h : HF) (a0 : Nat) (a1 : Int) (a2 : Int) (a3 : Int) (ra0 : kt a0 = 14) (ra1 : rng a1) (ra2 : rng a2) (ra3 : rng a3) : CTi l g B yX11_product cX11_product 7 (some .int) 5 [.ref (B + a0), .int (ii a1), .int (ii a2), .int (ii a3)] h (fX11_product F a0 a1 a2 a3 h) := by
  refine z_enterI (by decide) rfl (Nat.le_of_ble_eq_true rfl) ?_
  intro p e s m args below meth c ls o Q cx hp hl hf hQ
  have hl : lv_has ls 7 [(0, .ref (B + a0)), (1, .int (ii a1)), (2, .int (ii a2)), (3, .int (ii a3))] := hl
  unfold fX11_product at hf
  refine lv_iload_n cx.1 cx.2.1 dX11_product_0 rfl (lv_at hl 3 rfl) ?_
  refine z_ci cx hp (fun o' hx => zrunS (n := 5) (As := [.int (ii a3)]) (rest := []) cx hp (mX11_isDrawer F l g B h a3 ra3 o' hx) sw_X11_isDrawer ml_X11_123 (by decide) rfl hl.1 rfl (Nat.le_of_ble_eq_true rfl) dX11_product_1) hf (fun r1 h H locs rr1 hp hf => ?_)
  refine z_if_ne cx rr1 (tgt := 10) dX11_product_4 (by decide) hf (fun _ hf => ?_) (fun _ hf => ?_)
  · refine z_bipush cx (by decide) dX11_product_7 ?_
    rw [hQ]; exact z_iret cx hp (by decide) dX11_product_9 hf
  · refine lv_aload_n cx.1 cx.2.1 dX11_product_10 rfl (lv_at hl 0 rfl) ?_
    refine lv_iload_n cx.1 cx.2.1 dX11_product_11 rfl (lv_at hl 1 rfl) ?_
    refine lv_iload_n cx.1 cx.2.1 dX11_product_12 rfl (lv_at hl 2 rfl) ?_
    refine z_ci cx hp (fun o' hx => zrunV (n := 5) (As := [.int (ii a1), .int (ii a2)]) (rest := []) cx hp (mX11_refusePair F l g B h a0 a1 a2 ra0 ra1 ra2 o' hx) 11 ra0 (by decide) rfl vw_X11_refusePair ml_X11_301 (by decide) rfl hl.1 rfl (Nat.le_of_ble_eq_true rfl) dX11_product_13) hf (fun r2 h H locs rr2 hp hf => ?_)
    refine lv_istore (lv' := [(4, .int (ii r2)), (0, .ref (B + a0)), (1, .int (ii a1)), (2, .int (ii a2)), (3, .int (ii a3))]) cx.1 cx.2.1 dX11_product_16 hl (by decide) rfl (fun ls hl => ?_)
    refine lv_iload cx.1 cx.2.1 dX11_product_18 (lv_at hl 0 rfl) ?_
    refine z_if_eq cx rr2 (tgt := 26) dX11_product_20 (by decide) hf (fun _ hf => ?_) (fun _ hf => ?_)
    · refine lv_aload_n cx.1 cx.2.1 dX11_product_26 rfl (lv_at hl 1 rfl) ?_
      refine z_gets cx hp (T := TX11) 11 2 (a0 + 5) rfl zin_11 (by decide) (by decide) ra0 rfl fl_X11_23 dX11_product_27 ?_
      refine lv_iload_n cx.1 cx.2.1 dX11_product_30 rfl (lv_at hl 2 rfl) ?_
      refine z_aald1 cx hp (zs_11_2 a0 (kt_lt ra0 (by decide)) ra0) ra1 dX11_product_31 hf (fun x3 rx3 hf => ?_)
      refine lv_astore (lv' := [(5, .ref (B + x3)), (4, .int (ii r2)), (0, .ref (B + a0)), (1, .int (ii a1)), (2, .int (ii a2)), (3, .int (ii a3))]) cx.1 cx.2.1 dX11_product_32 hl (by decide) rfl (fun ls hl => ?_)
      refine lv_aload_n cx.1 cx.2.1 dX11_product_34 rfl (lv_at hl 2 rfl) ?_
      refine z_gets cx hp (T := TX11) 11 2 (a0 + 5) rfl zin_11 (by decide) (by decide) ra0 rfl fl_X11_23 dX11_product_35 ?_
      refine lv_iload_n cx.1 cx.2.1 dX11_product_38 rfl (lv_at hl 4 rfl) ?_
      refine z_aald1 cx hp (zs_11_2 a0 (kt_lt ra0 (by decide)) ra0) ra2 dX11_product_39 hf (fun x4 rx4 hf => ?_)
      refine lv_astore (lv' := [(6, .ref (B + x4)), (5, .ref (B + x3)), (4, .int (ii r2)), (0, .ref (B + a0)), (1, .int (ii a1)), (2, .int (ii a2)), (3, .int (ii a3))]) cx.1 cx.2.1 dX11_product_40 hl (by decide) rfl (fun ls hl => ?_)
      refine lv_aload cx.1 cx.2.1 dX11_product_42 (lv_at hl 1 rfl) ?_
      refine z_geti cx hp (T := TX0) 0 0 rfl zin_0 (by decide) (by decide) rx3 rfl fl_X11_172 dX11_product_44 hf (fun x5 rx5 hf => ?_)
      refine lv_aload cx.1 cx.2.1 dX11_product_47 (lv_at hl 0 rfl) ?_
      refine z_geti cx hp (T := TX0) 0 0 rfl zin_0 (by decide) (by decide) rx4 rfl fl_X11_172 dX11_product_49 hf (fun x6 rx6 hf => ?_)
      refine z_imul cx dX11_product_52 ?_
      refine z_bipush cx (by decide) dX11_product_53 ?_
      refine z_icmp_le cx (rng_wr _) (by decide) (tgt := 61) dX11_product_55 (by decide) hf (fun _ hf => ?_) (fun _ hf => ?_)
      · refine z_bipush cx (by decide) dX11_product_58 ?_
        rw [hQ]; exact z_iret cx hp (by decide) dX11_product_60 hf
      · refine lv_aload_n cx.1 cx.2.1 dX11_product_61 rfl (lv_at hl 3 rfl) ?_
        refine z_gets cx hp (T := TX11) 11 3 (a0 + 6) rfl zin_11 (by decide) (by decide) ra0 rfl fl_X11_28 dX11_product_62 ?_
        refine lv_aload cx.1 cx.2.1 dX11_product_65 (lv_at hl 1 rfl) ?_
        refine lv_aload cx.1 cx.2.1 dX11_product_67 (lv_at hl 0 rfl) ?_
        refine z_cv cx hp (fun o' hx => zrunV (n := 5) (As := [.ref (B + x3), .ref (B + x4)]) (rest := []) cx hp (mX0_becomeProduct F l g B h (a0 + 6) x3 x4 (zs_11_3 a0 (kt_lt ra0 (by decide)) ra0) rx3 rx4 o' hx) 0 (zs_11_3 a0 (kt_lt ra0 (by decide)) ra0) (by decide) rfl vw_X0_becomeProduct ml_X11_328 (by decide) rfl hl.1 rfl (Nat.le_of_ble_eq_true rfl) dX11_product_69) hf (fun _ h H locs hp hf => ?_)
        refine lv_aload_n cx.1 cx.2.1 dX11_product_72 rfl (lv_at hl 3 rfl) ?_
        refine lv_iload_n cx.1 cx.2.1 dX11_product_73 rfl (lv_at hl 6 rfl) ?_
        refine z_cv cx hp (fun o' hx => zrunV (n := 5) (As := [.int (ii a3)]) (rest := []) cx hp (mX11_putDraft F l g B h a0 a3 ra0 ra3 o' hx) 11 ra0 (by decide) rfl vw_X11_putDraft ml_X11_134 (by decide) rfl hl.1 rfl (Nat.le_of_ble_eq_true rfl) dX11_product_74) hf (fun _ h H locs hp hf => ?_)
        refine lv_aload_n cx.1 cx.2.1 dX11_product_77 rfl (lv_at hl 3 rfl) ?_
        refine z_gets cx hp (T := TX11) 11 3 (a0 + 6) rfl zin_11 (by decide) (by decide) ra0 rfl fl_X11_28 dX11_product_78 ?_
        refine z_geti cx hp (T := TX0) 0 0 rfl zin_0 (by decide) (by decide) (zs_11_3 a0 (kt_lt ra0 (by decide)) ra0) rfl fl_X11_172 dX11_product_81 hf (fun x9 rx9 hf => ?_)
        rw [hQ]; exact z_iret cx hp rx9 dX11_product_84 hf
    · refine lv_iload cx.1 cx.2.1 dX11_product_23 (lv_at hl 0 rfl) ?_
      rw [hQ]; exact z_iret cx hp rr2 dX11_product_25 hf
theorem dX5_firstBroken_0 : decode cX5_firstBroken 0 = .ok (.iconst 0, 1) := by decide +kernel
theorem dX5_firstBroken_1 : decode cX5_firstBroken 1 = .ok (.istore_n 3, 1) := by decide +kernel
theorem dX5_firstBroken_2 : decode cX5_firstBroken 2 = .ok (.iload_n 3, 1) := by decide +kernel
theorem dX5_firstBroken_3 : decode cX5_firstBroken 3 = .ok (.aload_n 2, 1) := by decide +kernel
theorem dX5_firstBroken_4 : decode cX5_firstBroken 4 = .ok (.getfield 18, 3) := by decide +kernel
theorem dX5_firstBroken_7 : decode cX5_firstBroken 7 = .ok (.if_icmp .ge 26, 3) := by decide +kernel
theorem dX5_firstBroken_10 : decode cX5_firstBroken 10 = .ok (.aload_n 0, 1) := by decide +kernel
theorem dX5_firstBroken_11 : decode cX5_firstBroken 11 = .ok (.aload_n 1, 1) := by decide +kernel
theorem dX5_firstBroken_12 : decode cX5_firstBroken 12 = .ok (.aload_n 2, 1) := by decide +kernel
theorem dX5_firstBroken_13 : decode cX5_firstBroken 13 = .ok (.iload_n 3, 1) := by decide +kernel
theorem dX5_firstBroken_14 : decode cX5_firstBroken 14 = .ok (.iconst 1, 1) := by decide +kernel
theorem dX5_firstBroken_15 : decode cX5_firstBroken 15 = .ok (.invokevirtual 24, 3) := by decide +kernel
theorem dX5_firstBroken_18 : decode cX5_firstBroken 18 = .ok (.aload_n 0, 1) := by decide +kernel
theorem dX5_firstBroken_19 : decode cX5_firstBroken 19 = .ok (.getfield 28, 3) := by decide +kernel
theorem dX5_firstBroken_22 : decode cX5_firstBroken 22 = .ok (.ifCond .le 5, 3) := by decide +kernel
theorem dX5_firstBroken_25 : decode cX5_firstBroken 25 = .ok (.iload_n 3, 1) := by decide +kernel
theorem dX5_firstBroken_26 : decode cX5_firstBroken 26 = .ok (.ireturn, 1) := by decide +kernel
theorem dX5_firstBroken_27 : decode cX5_firstBroken 27 = .ok (.iinc 3 1, 3) := by decide +kernel
theorem dX5_firstBroken_30 : decode cX5_firstBroken 30 = .ok (.goto (-28), 3) := by decide +kernel
theorem dX5_firstBroken_33 : decode cX5_firstBroken 33 = .ok (.iconst (-1), 1) := by decide +kernel
theorem dX5_firstBroken_34 : decode cX5_firstBroken 34 = .ok (.ireturn, 1) := by decide +kernel
def LX5_firstBroken_2 (F : Nat) (u0 : Nat) (u1 : Nat) (u2 : Nat) (k33 : HF → RO) (k25 : Int → HF → RO) : Nat → Int → HF → RO
  | 0, _, _ => none
  | n + 1, v3, h =>
    zgf h u2 0 fun x1 =>
    if v3 < x1 then (
      zbd (fX5_tryLaw F u0 u1 u2 v3 1 h) fun _ h =>
      zgf h u0 0 fun x3 =>
      if 0 < x3 then (
        k25 v3 h
      ) else (
        zlet (wr (v3 + 1)) fun x4 =>
        LX5_firstBroken_2 F u0 u1 u2 k33 k25 n x4 h
      )
    ) else (
      k33  h
    )
set_option maxHeartbeats 4000000 in
set_option maxRecDepth 100000 in
theorem wX5_firstBroken_2 {p : Program} {l : Launch} {e : Env} {s : State} {m : MethodId} {args : Array Value} {below : List Frame} {meth : Method} {c : Code} {Q : State → Prop} {g : zG} {B : Nat} {o : Int × HF} (F : Nat) (cx : Cx p s m args meth c cX5_firstBroken 4 RX5 (some .int) g B) (u0 : Nat) (ru0 : kt u0 = 8) (u1 : Nat) (ru1 : kt u1 = 3) (u2 : Nat) (ru2 : kt u2 = 7) (k33 : HF → RO) (hk33 : ∀  (h : HF) (H : Heap) (locs : List Loc) (ls : Array Slot), Hp g B s h H locs → lv_has ls 4 [] → k33  h = some o → W p l e (rmn 4) s m args below meth c H locs 0 0 Q (F0 m 33 ls [])) (k25 : Int → HF → RO) (hk25 : ∀ (x3 : Int) (h : HF) (H : Heap) (locs : List Loc) (ls : Array Slot), rng x3 → Hp g B s h H locs → lv_has ls 4 [(3, .int (ii x3))] → k25 x3 h = some o → W p l e (rmn 4) s m args below meth c H locs 0 0 Q (F0 m 25 ls [])) : ∀ (n : Nat) (v3 : Int) (h : HF) (H : Heap) (locs : List Loc) (ls : Array Slot), rng v3 → Hp g B s h H locs → lv_has ls 4 [(0, .ref (B + u0)), (1, .ref (B + u1)), (2, .ref (B + u2)), (3, .int (ii v3))] → LX5_firstBroken_2 F u0 u1 u2 k33 k25 n v3 h = some o → W p l e (rmn 4) s m args below meth c H locs 0 0 Q (F0 m 2 ls []) := by
  intro n
  induction n with
  | zero =>
    intro v3 h H locs ls rv3 hp hl hf
    cases hf
  | succ n ih =>
    intro v3 h H locs ls rv3 hp hl hf
    rw [LX5_firstBroken_2] at hf
    refine lv_iload_n cx.1 cx.2.1 dX5_firstBroken_2 rfl (lv_at hl 3 rfl) ?_
    refine lv_aload_n cx.1 cx.2.1 dX5_firstBroken_3 rfl (lv_at hl 2 rfl) ?_
    refine z_geti cx hp (T := TX4) 4 0 rfl zin_4 (by decide) (by decide) ru2 rfl fl_X5_18 dX5_firstBroken_4 hf (fun x1 rx1 hf => ?_)
    refine z_icmp_ge cx rv3 rx1 (tgt := 33) dX5_firstBroken_7 (by decide) hf (fun _ hf => ?_) (fun _ hf => ?_)
    · refine lv_aload_n cx.1 cx.2.1 dX5_firstBroken_10 rfl (lv_at hl 0 rfl) ?_
      refine lv_aload_n cx.1 cx.2.1 dX5_firstBroken_11 rfl (lv_at hl 1 rfl) ?_
      refine lv_aload_n cx.1 cx.2.1 dX5_firstBroken_12 rfl (lv_at hl 2 rfl) ?_
      refine lv_iload_n cx.1 cx.2.1 dX5_firstBroken_13 rfl (lv_at hl 3 rfl) ?_
      refine z_iconst cx dX5_firstBroken_14 ?_
      refine z_cv cx hp (fun o' hx => zrunV (n := 4) (As := [.ref (B + u1), .ref (B + u2), .int (ii v3), .int (ii 1)]) (rest := []) cx hp (mX5_tryLaw F l g B h u0 u1 u2 v3 1 ru0 ru1 ru2 rv3 (by decide) o' hx) 5 ru0 (by decide) rfl vw_X5_tryLaw ml_X5_24 (by decide) rfl hl.1 rfl (Nat.le_of_ble_eq_true rfl) dX5_firstBroken_15) hf (fun _ h H locs hp hf => ?_)
      refine lv_aload_n cx.1 cx.2.1 dX5_firstBroken_18 rfl (lv_at hl 0 rfl) ?_
      refine z_geti cx hp (T := TX5) 5 0 rfl zin_5 (by decide) (by decide) ru0 rfl fl_X5_28 dX5_firstBroken_19 hf (fun x3 rx3 hf => ?_)
      refine z_if_le cx rx3 (tgt := 27) dX5_firstBroken_22 (by decide) hf (fun _ hf => ?_) (fun _ hf => ?_)
      · exact hk25 v3 h _ _ ls rv3 hp (lv_sub hl [3] rfl) hf
      · refine z_iinc cx (fun x4 => [(3, .int (ii x4)), (0, .ref (B + u0)), (1, .ref (B + u1)), (2, .ref (B + u2))]) dX5_firstBroken_27 hl (k := 3) rfl (by decide) (fun _ => rfl) hf (fun x4 rx4 hf ls hl => ?_)
        refine lv_goto (tgt := 2) cx.1 cx.2.1 dX5_firstBroken_30 (by decide) ?_
        exact ih x4 h _ _ ls rx4 hp (lv_sub hl [1, 2, 3, 0] rfl) hf
    · exact hk33  h _ _ ls  hp (lv_sub hl [] rfl) hf
def fX5_firstBroken (F : Nat) (a0 : Nat) (a1 : Nat) (a2 : Nat) (h : HF) : RO :=
  zjn (fun  (h : HF) => (
    some ((-1), h)
  )) fun j33 =>
  zjn (fun (x25_3 : Int) (h : HF) => (
    some (x25_3, h)
  )) fun j25 =>
  LX5_firstBroken_2 F a0 a1 a2 j33 j25 F 0 h
set_option maxHeartbeats 4000000 in
set_option maxRecDepth 100000 in
theorem mX5_firstBroken (F : Nat) (l : Launch) (g : zG) (B : Nat) (h : HF) (a0 : Nat) (a1 : Nat) (a2 : Nat) (ra0 : kt a0 = 8) (ra1 : kt a1 = 3) (ra2 : kt a2 = 7) : CTi l g B yX5_firstBroken cX5_firstBroken 4 (some .int) 4 [.ref (B + a0), .ref (B + a1), .ref (B + a2)] h (fX5_firstBroken F a0 a1 a2 h) := by
  refine z_enterI (by decide) rfl (Nat.le_of_ble_eq_true rfl) ?_
  intro p e s m args below meth c ls o Q cx hp hl hf hQ
  have hl : lv_has ls 4 [(0, .ref (B + a0)), (1, .ref (B + a1)), (2, .ref (B + a2))] := hl
  unfold fX5_firstBroken at hf
  refine z_iconst cx dX5_firstBroken_0 ?_
  refine lv_istore_n (lv' := [(3, .int (ii 0)), (0, .ref (B + a0)), (1, .ref (B + a1)), (2, .ref (B + a2))]) cx.1 cx.2.1 dX5_firstBroken_1 rfl hl (by decide) rfl (fun ls hl => ?_)
  refine z_jn hf (fun j => ∀  (h : HF) (H : Heap) (locs : List Loc) (ls : Array Slot), Hp g B s h H locs → lv_has ls 4 [] → j  h = some o → W p l e (rmn 4) s m args below meth c H locs 0 0 Q (F0 m 33 ls [])) ?_ (fun j33 hj33 hf => ?_)
  · intro  h H locs ls  hp hl hf
    refine z_iconst cx dX5_firstBroken_33 ?_
    rw [hQ]; exact z_iret cx hp (by decide) dX5_firstBroken_34 hf
  refine z_jn hf (fun j => ∀ (x25_3 : Int) (h : HF) (H : Heap) (locs : List Loc) (ls : Array Slot), rng x25_3 → Hp g B s h H locs → lv_has ls 4 [(3, .int (ii x25_3))] → j x25_3 h = some o → W p l e (rmn 4) s m args below meth c H locs 0 0 Q (F0 m 25 ls [])) ?_ (fun j25 hj25 hf => ?_)
  · intro x25_3 h H locs ls rx25_3 hp hl hf
    refine lv_iload_n cx.1 cx.2.1 dX5_firstBroken_25 rfl (lv_at hl 0 rfl) ?_
    rw [hQ]; exact z_iret cx hp rx25_3 dX5_firstBroken_26 hf
  exact wX5_firstBroken_2 F cx a0 ra0 a1 ra1 a2 ra2 j33 hj33 j25 hj25 F 0 h _ _ ls (by decide) hp (lv_sub hl [1, 2, 3, 0] rfl) hf
theorem dX7_seek_0 : decode cX7_seek 0 = .ok (.aload_n 0, 1) := by decide +kernel
theorem dX7_seek_1 : decode cX7_seek 1 = .ok (.aload_n 1, 1) := by decide +kernel
theorem dX7_seek_2 : decode cX7_seek 2 = .ok (.putfield 30, 3) := by decide +kernel
theorem dX7_seek_5 : decode cX7_seek 5 = .ok (.aload_n 0, 1) := by decide +kernel
theorem dX7_seek_6 : decode cX7_seek 6 = .ok (.aload_n 2, 1) := by decide +kernel
theorem dX7_seek_7 : decode cX7_seek 7 = .ok (.putfield 34, 3) := by decide +kernel
theorem dX7_seek_10 : decode cX7_seek 10 = .ok (.aload_n 0, 1) := by decide +kernel
theorem dX7_seek_11 : decode cX7_seek 11 = .ok (.iload 4, 2) := by decide +kernel
theorem dX7_seek_13 : decode cX7_seek 13 = .ok (.putfield 37, 3) := by decide +kernel
theorem dX7_seek_16 : decode cX7_seek 16 = .ok (.aload_n 0, 1) := by decide +kernel
theorem dX7_seek_17 : decode cX7_seek 17 = .ok (.iload_n 3, 1) := by decide +kernel
theorem dX7_seek_18 : decode cX7_seek 18 = .ok (.iconst 1, 1) := by decide +kernel
theorem dX7_seek_19 : decode cX7_seek 19 = .ok (.iand, 1) := by decide +kernel
theorem dX7_seek_20 : decode cX7_seek 20 = .ok (.ifCond .eq 7, 3) := by decide +kernel
theorem dX7_seek_23 : decode cX7_seek 23 = .ok (.iconst 1, 1) := by decide +kernel
theorem dX7_seek_24 : decode cX7_seek 24 = .ok (.goto 4, 3) := by decide +kernel
theorem dX7_seek_27 : decode cX7_seek 27 = .ok (.iconst 0, 1) := by decide +kernel
theorem dX7_seek_28 : decode cX7_seek 28 = .ok (.putfield 41, 3) := by decide +kernel
theorem dX7_seek_31 : decode cX7_seek 31 = .ok (.aload_n 0, 1) := by decide +kernel
theorem dX7_seek_32 : decode cX7_seek 32 = .ok (.iload_n 3, 1) := by decide +kernel
theorem dX7_seek_33 : decode cX7_seek 33 = .ok (.iconst 2, 1) := by decide +kernel
theorem dX7_seek_34 : decode cX7_seek 34 = .ok (.iand, 1) := by decide +kernel
theorem dX7_seek_35 : decode cX7_seek 35 = .ok (.ifCond .eq 7, 3) := by decide +kernel
theorem dX7_seek_38 : decode cX7_seek 38 = .ok (.iconst 1, 1) := by decide +kernel
theorem dX7_seek_39 : decode cX7_seek 39 = .ok (.goto 4, 3) := by decide +kernel
theorem dX7_seek_42 : decode cX7_seek 42 = .ok (.iconst 0, 1) := by decide +kernel
theorem dX7_seek_43 : decode cX7_seek 43 = .ok (.putfield 45, 3) := by decide +kernel
theorem dX7_seek_46 : decode cX7_seek 46 = .ok (.aload_n 0, 1) := by decide +kernel
theorem dX7_seek_47 : decode cX7_seek 47 = .ok (.iconst 0, 1) := by decide +kernel
theorem dX7_seek_48 : decode cX7_seek 48 = .ok (.putfield 48, 3) := by decide +kernel
theorem dX7_seek_51 : decode cX7_seek 51 = .ok (.aload_n 0, 1) := by decide +kernel
theorem dX7_seek_52 : decode cX7_seek 52 = .ok (.iconst 0, 1) := by decide +kernel
theorem dX7_seek_53 : decode cX7_seek 53 = .ok (.putfield 51, 3) := by decide +kernel
theorem dX7_seek_56 : decode cX7_seek 56 = .ok (.aload_n 0, 1) := by decide +kernel
theorem dX7_seek_57 : decode cX7_seek 57 = .ok (.invokevirtual 54, 3) := by decide +kernel
theorem dX7_seek_60 : decode cX7_seek 60 = .ok (.aload_n 0, 1) := by decide +kernel
theorem dX7_seek_61 : decode cX7_seek 61 = .ok (.iconst 0, 1) := by decide +kernel
theorem dX7_seek_62 : decode cX7_seek 62 = .ok (.iconst 0, 1) := by decide +kernel
theorem dX7_seek_63 : decode cX7_seek 63 = .ok (.invokevirtual 57, 3) := by decide +kernel
theorem dX7_seek_66 : decode cX7_seek 66 = .ok (.aload_n 0, 1) := by decide +kernel
theorem dX7_seek_67 : decode cX7_seek 67 = .ok (.getfield 48, 3) := by decide +kernel
theorem dX7_seek_70 : decode cX7_seek 70 = .ok (.ireturn, 1) := by decide +kernel
def fX7_seek (F : Nat) (a0 : Nat) (a1 : Nat) (a2 : Nat) (a3 : Int) (a4 : Int) (h : HF) : RO :=
  zpf h a0 2 ((a1 : Nat) : Int) fun h =>
  zpf h a0 3 ((a2 : Nat) : Int) fun h =>
  zpf h a0 4 a4 fun h =>
  zjn (fun (y28_0 : Int) (y28_1 : Nat) (h : HF) => (
    zpz h y28_1 5 y28_0 fun h =>
    zjn (fun (y43_0 : Int) (y43_1 : Nat) (h : HF) => (
      zpz h y43_1 6 y43_0 fun h =>
      zpz h a0 7 0 fun h =>
      zpf h a0 0 0 fun h =>
      zbd (fX7_sortCells F a0 h) fun _ h =>
      zbd (fX7_extend F 10 a0 0 0 h) fun _ h =>
      zgf h a0 7 fun x3 =>
      zrz x3 h
    )) fun j43 =>
    if wand a3 2 = 0 then (
      j43 0 a0 h
    ) else (
      j43 1 a0 h
    )
  )) fun j28 =>
  if wand a3 1 = 0 then (
    j28 0 a0 h
  ) else (
    j28 1 a0 h
  )
set_option maxHeartbeats 4000000 in
set_option maxRecDepth 100000 in
theorem mX7_seek (F : Nat) (l : Launch) (g : zG) (B : Nat) (h : HF) (a0 : Nat) (a1 : Nat) (a2 : Nat) (a3 : Int) (a4 : Int) (ra0 : kt a0 = 10) (ra1 : kt a1 = 3) (ra2 : kt a2 = 3) (ra3 : rng a3) (ra4 : rng a4) : CTi l g B yX7_seek cX7_seek 5 (some .boolean) 43 [.ref (B + a0), .ref (B + a1), .ref (B + a2), .int (ii a3), .int (ii a4)] h (fX7_seek F a0 a1 a2 a3 a4 h) := by
  refine z_enterI (by decide) rfl (Nat.le_of_ble_eq_true rfl) ?_
  intro p e s m args below meth c ls o Q cx hp hl hf hQ
  have hl : lv_has ls 5 [(0, .ref (B + a0)), (1, .ref (B + a1)), (2, .ref (B + a2)), (3, .int (ii a3)), (4, .int (ii a4))] := hl
  unfold fX7_seek at hf
  refine lv_aload_n cx.1 cx.2.1 dX7_seek_0 rfl (lv_at hl 0 rfl) ?_
  refine lv_aload_n cx.1 cx.2.1 dX7_seek_1 rfl (lv_at hl 1 rfl) ?_
  refine z_putd cx hp (T := TX7) tyX7 tyX7_ok nmX7 7 2 3 ra1 rfl zin_7 (by decide) (by decide) ra0 rfl rfl ⟨_, rfl⟩ fl_X7_30 dX7_seek_2 hf (fun h H locs hp hf => ?_)
  refine lv_aload_n cx.1 cx.2.1 dX7_seek_5 rfl (lv_at hl 0 rfl) ?_
  refine lv_aload_n cx.1 cx.2.1 dX7_seek_6 rfl (lv_at hl 2 rfl) ?_
  refine z_putd cx hp (T := TX7) tyX7 tyX7_ok nmX7 7 3 3 ra2 rfl zin_7 (by decide) (by decide) ra0 rfl rfl ⟨_, rfl⟩ fl_X7_34 dX7_seek_7 hf (fun h H locs hp hf => ?_)
  refine lv_aload_n cx.1 cx.2.1 dX7_seek_10 rfl (lv_at hl 0 rfl) ?_
  refine lv_iload cx.1 cx.2.1 dX7_seek_11 (lv_at hl 4 rfl) ?_
  refine z_puti cx hp (T := TX7) tyX7 tyX7_ok nmX7 7 4 ra4 rfl zin_7 (by decide) (by decide) ra0 rfl rfl rfl fl_X7_37 dX7_seek_13 hf (fun h H locs hp hf => ?_)
  refine lv_aload_n cx.1 cx.2.1 dX7_seek_16 rfl (lv_at hl 0 rfl) ?_
  refine lv_iload_n cx.1 cx.2.1 dX7_seek_17 rfl (lv_at hl 3 rfl) ?_
  refine z_iconst cx dX7_seek_18 ?_
  refine z_iand cx dX7_seek_19 ?_
  refine z_jn hf (fun j => ∀ (y28_0 : Int) (y28_1 : Nat) (h : HF) (H : Heap) (locs : List Loc) (ls : Array Slot), rng y28_0 → kt y28_1 = 10 → Hp g B s h H locs → lv_has ls 5 [(0, .ref (B + a0)), (3, .int (ii a3))] → j y28_0 y28_1 h = some o → W p l e (rmn 43) s m args below meth c H locs 0 0 Q (F0 m 28 ls [.int (ii y28_0), .ref (B + y28_1)])) ?_ (fun j28 hj28 hf => ?_)
  · intro y28_0 y28_1 h H locs ls ry28_0 ry28_1 hp hl hf
    refine z_putz cx hp (T := TX7) tyX7 tyX7_ok nmX7 7 5 rfl zin_7 (by decide) (by decide) ry28_1 rfl rfl rfl fl_X7_41 dX7_seek_28 hf (fun h H locs hp hf => ?_)
    refine lv_aload_n cx.1 cx.2.1 dX7_seek_31 rfl (lv_at hl 0 rfl) ?_
    refine lv_iload_n cx.1 cx.2.1 dX7_seek_32 rfl (lv_at hl 1 rfl) ?_
    refine z_iconst cx dX7_seek_33 ?_
    refine z_iand cx dX7_seek_34 ?_
    refine z_jn hf (fun j => ∀ (y43_0 : Int) (y43_1 : Nat) (h : HF) (H : Heap) (locs : List Loc) (ls : Array Slot), rng y43_0 → kt y43_1 = 10 → Hp g B s h H locs → lv_has ls 5 [(0, .ref (B + a0))] → j y43_0 y43_1 h = some o → W p l e (rmn 43) s m args below meth c H locs 0 0 Q (F0 m 43 ls [.int (ii y43_0), .ref (B + y43_1)])) ?_ (fun j43 hj43 hf => ?_)
    · intro y43_0 y43_1 h H locs ls ry43_0 ry43_1 hp hl hf
      refine z_putz cx hp (T := TX7) tyX7 tyX7_ok nmX7 7 6 rfl zin_7 (by decide) (by decide) ry43_1 rfl rfl rfl fl_X7_45 dX7_seek_43 hf (fun h H locs hp hf => ?_)
      refine lv_aload_n cx.1 cx.2.1 dX7_seek_46 rfl (lv_at hl 0 rfl) ?_
      refine z_iconst cx dX7_seek_47 ?_
      refine z_putz cx hp (T := TX7) tyX7 tyX7_ok nmX7 7 7 rfl zin_7 (by decide) (by decide) ra0 rfl rfl rfl fl_X7_48 dX7_seek_48 hf (fun h H locs hp hf => ?_)
      refine lv_aload_n cx.1 cx.2.1 dX7_seek_51 rfl (lv_at hl 0 rfl) ?_
      refine z_iconst cx dX7_seek_52 ?_
      refine z_puti cx hp (T := TX7) tyX7 tyX7_ok nmX7 7 0 (by decide) rfl zin_7 (by decide) (by decide) ra0 rfl rfl rfl fl_X7_51 dX7_seek_53 hf (fun h H locs hp hf => ?_)
      refine lv_aload_n cx.1 cx.2.1 dX7_seek_56 rfl (lv_at hl 0 rfl) ?_
      refine z_cv cx hp (fun o' hx => zrunV (n := 43) (As := []) (rest := []) cx hp (mX7_sortCells F l g B h a0 ra0 o' hx) 7 ra0 (by decide) rfl vw_X7_sortCells ml_X7_54 (by decide) rfl hl.1 rfl (Nat.le_of_ble_eq_true rfl) dX7_seek_57) hf (fun _ h H locs hp hf => ?_)
      refine lv_aload_n cx.1 cx.2.1 dX7_seek_60 rfl (lv_at hl 0 rfl) ?_
      refine z_iconst cx dX7_seek_61 ?_
      refine z_iconst cx dX7_seek_62 ?_
      refine z_cv cx hp (fun o' hx => zrunV (n := 43) (As := [.int (ii 0), .int (ii 0)]) (rest := []) cx hp (mX7_extend F l g B 10 h a0 0 0 ra0 (by decide) (by decide) o' hx) 7 ra0 (by decide) rfl vw_X7_extend ml_X7_57 (by decide) rfl hl.1 rfl (Nat.le_of_ble_eq_true rfl) dX7_seek_63) hf (fun _ h H locs hp hf => ?_)
      refine lv_aload_n cx.1 cx.2.1 dX7_seek_66 rfl (lv_at hl 0 rfl) ?_
      refine z_getz cx hp (T := TX7) 7 7 rfl zin_7 (by decide) (by decide) ra0 rfl fl_X7_48 dX7_seek_67 hf (fun x3 rx3 hf => ?_)
      rw [hQ]; exact z_zret cx hp dX7_seek_70 hf
    refine z_if_eq cx (rng_and _ _) (tgt := 42) dX7_seek_35 (by decide) hf (fun _ hf => ?_) (fun _ hf => ?_)
    · refine z_iconst cx dX7_seek_42 ?_
      exact hj43 0 a0 h _ _ ls (by decide) ra0 hp (lv_sub hl [0] rfl) hf
    · refine z_iconst cx dX7_seek_38 ?_
      refine lv_goto (tgt := 43) cx.1 cx.2.1 dX7_seek_39 (by decide) ?_
      exact hj43 1 a0 h _ _ ls (by decide) ra0 hp (lv_sub hl [0] rfl) hf
  refine z_if_eq cx (rng_and _ _) (tgt := 27) dX7_seek_20 (by decide) hf (fun _ hf => ?_) (fun _ hf => ?_)
  · refine z_iconst cx dX7_seek_27 ?_
    exact hj28 0 a0 h _ _ ls (by decide) ra0 hp (lv_sub hl [0, 3] rfl) hf
  · refine z_iconst cx dX7_seek_23 ?_
    refine lv_goto (tgt := 28) cx.1 cx.2.1 dX7_seek_24 (by decide) ?_
    exact hj28 1 a0 h _ _ ls (by decide) ra0 hp (lv_sub hl [0, 3] rfl) hf
theorem dX8_seek_0 : decode cX8_seek 0 = .ok (.aload_n 0, 1) := by decide +kernel
theorem dX8_seek_1 : decode cX8_seek 1 = .ok (.iconst 0, 1) := by decide +kernel
theorem dX8_seek_2 : decode cX8_seek 2 = .ok (.putfield 19, 3) := by decide +kernel
theorem dX8_seek_5 : decode cX8_seek 5 = .ok (.aload_n 0, 1) := by decide +kernel
theorem dX8_seek_6 : decode cX8_seek 6 = .ok (.iconst 0, 1) := by decide +kernel
theorem dX8_seek_7 : decode cX8_seek 7 = .ok (.putfield 23, 3) := by decide +kernel
theorem dX8_seek_10 : decode cX8_seek 10 = .ok (.iconst 1, 1) := by decide +kernel
theorem dX8_seek_11 : decode cX8_seek 11 = .ok (.istore 4, 2) := by decide +kernel
theorem dX8_seek_13 : decode cX8_seek 13 = .ok (.iconst 0, 1) := by decide +kernel
theorem dX8_seek_14 : decode cX8_seek 14 = .ok (.istore 5, 2) := by decide +kernel
theorem dX8_seek_16 : decode cX8_seek 16 = .ok (.iload 5, 2) := by decide +kernel
theorem dX8_seek_18 : decode cX8_seek 18 = .ok (.ldc 26, 2) := by decide +kernel
theorem dX8_seek_20 : decode cX8_seek 20 = .ok (.if_icmp .ge 151, 3) := by decide +kernel
theorem dX8_seek_23 : decode cX8_seek 23 = .ok (.iload 4, 2) := by decide +kernel
theorem dX8_seek_25 : decode cX8_seek 25 = .ok (.ifCond .eq 146, 3) := by decide +kernel
theorem dX8_seek_28 : decode cX8_seek 28 = .ok (.aload_n 0, 1) := by decide +kernel
theorem dX8_seek_29 : decode cX8_seek 29 = .ok (.getfield 15, 3) := by decide +kernel
theorem dX8_seek_32 : decode cX8_seek 32 = .ok (.aload_n 1, 1) := by decide +kernel
theorem dX8_seek_33 : decode cX8_seek 33 = .ok (.aload_n 2, 1) := by decide +kernel
theorem dX8_seek_34 : decode cX8_seek 34 = .ok (.invokevirtual 27, 3) := by decide +kernel
theorem dX8_seek_37 : decode cX8_seek 37 = .ok (.iconst (-1), 1) := by decide +kernel
theorem dX8_seek_38 : decode cX8_seek 38 = .ok (.if_icmp .eq 7, 3) := by decide +kernel
theorem dX8_seek_41 : decode cX8_seek 41 = .ok (.iconst 1, 1) := by decide +kernel
theorem dX8_seek_42 : decode cX8_seek 42 = .ok (.goto 4, 3) := by decide +kernel
theorem dX8_seek_45 : decode cX8_seek 45 = .ok (.iconst 0, 1) := by decide +kernel
theorem dX8_seek_46 : decode cX8_seek 46 = .ok (.istore 6, 2) := by decide +kernel
theorem dX8_seek_48 : decode cX8_seek 48 = .ok (.iload 6, 2) := by decide +kernel
theorem dX8_seek_50 : decode cX8_seek 50 = .ok (.ifCond .ne 15, 3) := by decide +kernel
theorem dX8_seek_53 : decode cX8_seek 53 = .ok (.aload_n 0, 1) := by decide +kernel
theorem dX8_seek_54 : decode cX8_seek 54 = .ok (.getfield 9, 3) := by decide +kernel
theorem dX8_seek_57 : decode cX8_seek 57 = .ok (.aload_n 1, 1) := by decide +kernel
theorem dX8_seek_58 : decode cX8_seek 58 = .ok (.iconst 1, 1) := by decide +kernel
theorem dX8_seek_59 : decode cX8_seek 59 = .ok (.invokevirtual 33, 3) := by decide +kernel
theorem dX8_seek_62 : decode cX8_seek 62 = .ok (.ifCond .ne 35, 3) := by decide +kernel
theorem dX8_seek_97 : decode cX8_seek 97 = .ok (.aload_n 0, 1) := by decide +kernel
theorem dX8_seek_98 : decode cX8_seek 98 = .ok (.getfield 19, 3) := by decide +kernel
theorem dX8_seek_101 : decode cX8_seek 101 = .ok (.iload_n 3, 1) := by decide +kernel
theorem dX8_seek_102 : decode cX8_seek 102 = .ok (.if_icmp .ne 5, 3) := by decide +kernel
theorem dX8_seek_105 : decode cX8_seek 105 = .ok (.iconst 1, 1) := by decide +kernel
theorem dX8_seek_106 : decode cX8_seek 106 = .ok (.ireturn, 1) := by decide +kernel
theorem dX8_seek_107 : decode cX8_seek 107 = .ok (.aload_n 0, 1) := by decide +kernel
theorem dX8_seek_108 : decode cX8_seek 108 = .ok (.dup, 1) := by decide +kernel
theorem dX8_seek_109 : decode cX8_seek 109 = .ok (.getfield 19, 3) := by decide +kernel
theorem dX8_seek_112 : decode cX8_seek 112 = .ok (.iconst 1, 1) := by decide +kernel
theorem dX8_seek_113 : decode cX8_seek 113 = .ok (.iadd, 1) := by decide +kernel
theorem dX8_seek_114 : decode cX8_seek 114 = .ok (.putfield 19, 3) := by decide +kernel
theorem dX8_seek_117 : decode cX8_seek 117 = .ok (.aload_n 0, 1) := by decide +kernel
theorem dX8_seek_118 : decode cX8_seek 118 = .ok (.getfield 9, 3) := by decide +kernel
theorem dX8_seek_121 : decode cX8_seek 121 = .ok (.getfield 47, 3) := by decide +kernel
theorem dX8_seek_124 : decode cX8_seek 124 = .ok (.ifCond .le 28, 3) := by decide +kernel
theorem dX8_seek_127 : decode cX8_seek 127 = .ok (.aload_n 0, 1) := by decide +kernel
theorem dX8_seek_128 : decode cX8_seek 128 = .ok (.dup, 1) := by decide +kernel
theorem dX8_seek_129 : decode cX8_seek 129 = .ok (.getfield 23, 3) := by decide +kernel
theorem dX8_seek_132 : decode cX8_seek 132 = .ok (.getstatic 50, 3) := by decide +kernel
theorem dX8_seek_135 : decode cX8_seek 135 = .ok (.aload_n 1, 1) := by decide +kernel
theorem dX8_seek_136 : decode cX8_seek 136 = .ok (.getfield 54, 3) := by decide +kernel
theorem dX8_seek_139 : decode cX8_seek 139 = .ok (.iaload, 1) := by decide +kernel
theorem dX8_seek_140 : decode cX8_seek 140 = .ok (.aload_n 0, 1) := by decide +kernel
theorem dX8_seek_141 : decode cX8_seek 141 = .ok (.getfield 9, 3) := by decide +kernel
theorem dX8_seek_144 : decode cX8_seek 144 = .ok (.getfield 47, 3) := by decide +kernel
theorem dX8_seek_147 : decode cX8_seek 147 = .ok (.idiv, 1) := by decide +kernel
theorem dX8_seek_148 : decode cX8_seek 148 = .ok (.iadd, 1) := by decide +kernel
theorem dX8_seek_149 : decode cX8_seek 149 = .ok (.putfield 23, 3) := by decide +kernel
theorem dX8_seek_152 : decode cX8_seek 152 = .ok (.aload_n 0, 1) := by decide +kernel
theorem dX8_seek_153 : decode cX8_seek 153 = .ok (.aload_n 1, 1) := by decide +kernel
theorem dX8_seek_154 : decode cX8_seek 154 = .ok (.aload_n 1, 1) := by decide +kernel
theorem dX8_seek_155 : decode cX8_seek 155 = .ok (.invokevirtual 59, 3) := by decide +kernel
theorem dX8_seek_158 : decode cX8_seek 158 = .ok (.iconst 1, 1) := by decide +kernel
theorem dX8_seek_159 : decode cX8_seek 159 = .ok (.isub, 1) := by decide +kernel
theorem dX8_seek_160 : decode cX8_seek 160 = .ok (.invokevirtual 43, 3) := by decide +kernel
theorem dX8_seek_163 : decode cX8_seek 163 = .ok (.istore 4, 2) := by decide +kernel
theorem dX8_seek_65 : decode cX8_seek 65 = .ok (.aload_n 0, 1) := by decide +kernel
theorem dX8_seek_66 : decode cX8_seek 66 = .ok (.aload_n 1, 1) := by decide +kernel
theorem dX8_seek_67 : decode cX8_seek 67 = .ok (.iload 6, 2) := by decide +kernel
theorem dX8_seek_69 : decode cX8_seek 69 = .ok (.ifCond .eq 13, 3) := by decide +kernel
theorem dX8_seek_72 : decode cX8_seek 72 = .ok (.aload_n 0, 1) := by decide +kernel
theorem dX8_seek_73 : decode cX8_seek 73 = .ok (.getfield 15, 3) := by decide +kernel
theorem dX8_seek_76 : decode cX8_seek 76 = .ok (.getfield 39, 3) := by decide +kernel
theorem dX8_seek_79 : decode cX8_seek 79 = .ok (.goto 10, 3) := by decide +kernel
theorem dX8_seek_82 : decode cX8_seek 82 = .ok (.aload_n 0, 1) := by decide +kernel
theorem dX8_seek_83 : decode cX8_seek 83 = .ok (.getfield 9, 3) := by decide +kernel
theorem dX8_seek_86 : decode cX8_seek 86 = .ok (.getfield 42, 3) := by decide +kernel
theorem dX8_seek_89 : decode cX8_seek 89 = .ok (.invokevirtual 43, 3) := by decide +kernel
theorem dX8_seek_92 : decode cX8_seek 92 = .ok (.istore 4, 2) := by decide +kernel
theorem dX8_seek_94 : decode cX8_seek 94 = .ok (.goto 71, 3) := by decide +kernel
theorem dX8_seek_165 : decode cX8_seek 165 = .ok (.iinc 5 1, 3) := by decide +kernel
theorem dX8_seek_168 : decode cX8_seek 168 = .ok (.goto (-152), 3) := by decide +kernel
theorem dX8_seek_171 : decode cX8_seek 171 = .ok (.iconst 0, 1) := by decide +kernel
theorem dX8_seek_172 : decode cX8_seek 172 = .ok (.ireturn, 1) := by decide +kernel
def LX8_seek_16 (F : Nat) (u0 : Nat) (u1 : Nat) (u2 : Nat) (u3 : Int) (k171 : HF → RO) (k105 : HF → RO) : Nat → Int → Int → HF → RO
  | 0, _, _, _ => none
  | n + 1, v4, v5, h =>
    if v5 < 60000 then (
      if v4 = 0 then (
        k171  h
      ) else (
        zbd (fX5_firstBroken F 91 u1 u2 h) fun r1 h =>
        zjn (fun (x46_5 : Int) (y46_0 : Int) (h : HF) => (
          zjn (fun (x165_4 : Int) (x165_5 : Int) (h : HF) => (
            zlet (wr (x165_5 + 1)) fun x2 =>
            LX8_seek_16 F u0 u1 u2 u3 k171 k105 n x165_4 x2 h
          )) fun j165 =>
          zjn (fun (x65_5 : Int) (x65_6 : Int) (h : HF) => (
            zjn (fun (x89_5 : Int) (y89_0 : Int) (y89_1 : Nat) (y89_2 : Nat) (h : HF) => (
              zbd (fX8_advance F y89_2 y89_1 y89_0 h) fun r3 h =>
              j165 r3 x89_5 h
            )) fun j89 =>
            if x65_6 = 0 then (
              zgf h 105 3 fun x4 =>
              j89 x65_5 x4 u1 u0 h
            ) else (
              zgf h 91 2 fun x5 =>
              j89 x65_5 x5 u1 u0 h
            )
          )) fun j65 =>
          if y46_0 = 0 then (
            zbd (fX6_seek F 105 u1 1 h) fun r6 h =>
            if r6 = 0 then (
              j65 x46_5 y46_0 h
            ) else (
              zgf h u0 0 fun x7 =>
              if x7 = u3 then (
                k105  h
              ) else (
                zgf h u0 0 fun x8 =>
                zpf h u0 0 (wr (x8 + 1)) fun h =>
                zgf h 105 2 fun x9 =>
                zjn (fun (x152_5 : Int) (h : HF) => (
                  zbd (fX0_cellCount F u1 h) fun r10 h =>
                  zbd (fX8_advance F u0 u1 (wr (r10 - 1)) h) fun r11 h =>
                  j165 r11 x152_5 h
                )) fun j152 =>
                if 0 < x9 then (
                  zgf h u0 1 fun x12 =>
                  zgf h u1 0 fun x14 =>
                  zrn x14 fun x15 =>
                  zgf h 105 2 fun x16 =>
                  zdv x16 <|
                  zpf h u0 1 (wr (x12 + (wdiv x15 x16))) fun h =>
                  j152 x46_5 h
                ) else (
                  j152 x46_5 h
                )
              )
            )
          ) else (
            j65 x46_5 y46_0 h
          )
        )) fun j46 =>
        if r1 = (-1) then (
          j46 v5 0 h
        ) else (
          j46 v5 1 h
        )
      )
    ) else (
      k171  h
    )
set_option maxHeartbeats 4000000 in
set_option maxRecDepth 100000 in
theorem wX8_seek_16 {p : Program} {l : Launch} {e : Env} {s : State} {m : MethodId} {args : Array Value} {below : List Frame} {meth : Method} {c : Code} {Q : State → Prop} {g : zG} {B : Nat} {o : Int × HF} (F : Nat) (cx : Cx p s m args meth c cX8_seek 7 RX8 (some .boolean) g B) (u0 : Nat) (ru0 : kt u0 = 11) (u1 : Nat) (ru1 : kt u1 = 3) (u2 : Nat) (ru2 : kt u2 = 7) (u3 : Int) (ru3 : rng u3) (k171 : HF → RO) (hk171 : ∀  (h : HF) (H : Heap) (locs : List Loc) (ls : Array Slot), Hp g B s h H locs → lv_has ls 7 [] → k171  h = some o → W p l e (rmn 5) s m args below meth c H locs 0 0 Q (F0 m 171 ls [])) (k105 : HF → RO) (hk105 : ∀  (h : HF) (H : Heap) (locs : List Loc) (ls : Array Slot), Hp g B s h H locs → lv_has ls 7 [] → k105  h = some o → W p l e (rmn 5) s m args below meth c H locs 0 0 Q (F0 m 105 ls [])) : ∀ (n : Nat) (v4 : Int) (v5 : Int) (h : HF) (H : Heap) (locs : List Loc) (ls : Array Slot), rng v4 → rng v5 → Hp g B s h H locs → lv_has ls 7 [(0, .ref (B + u0)), (1, .ref (B + u1)), (2, .ref (B + u2)), (3, .int (ii u3)), (4, .int (ii v4)), (5, .int (ii v5))] → LX8_seek_16 F u0 u1 u2 u3 k171 k105 n v4 v5 h = some o → W p l e (rmn 5) s m args below meth c H locs 0 0 Q (F0 m 16 ls []) := by
  intro n
  induction n with
  | zero =>
    intro v4 v5 h H locs ls rv4 rv5 hp hl hf
    cases hf
  | succ n ih =>
    intro v4 v5 h H locs ls rv4 rv5 hp hl hf
    rw [LX8_seek_16] at hf
    refine lv_iload cx.1 cx.2.1 dX8_seek_16 (lv_at hl 5 rfl) ?_
    refine lv_ldc (v := ii 60000) cx.1 cx.2.1 cx.2.2.2.1 (cx.2.2.2.2.1 _ (aw_m5 116 (by decide +kernel) rfl)) dX8_seek_18 ?_
    refine z_icmp_ge cx rv5 (by decide) (tgt := 171) dX8_seek_20 (by decide) hf (fun _ hf => ?_) (fun _ hf => ?_)
    · refine lv_iload cx.1 cx.2.1 dX8_seek_23 (lv_at hl 4 rfl) ?_
      refine z_if_eq cx rv4 (tgt := 171) dX8_seek_25 (by decide) hf (fun _ hf => ?_) (fun _ hf => ?_)
      · exact hk171  h _ _ ls  hp (lv_sub hl [] rfl) hf
      · refine lv_aload_n cx.1 cx.2.1 dX8_seek_28 rfl (lv_at hl 0 rfl) ?_
        refine z_gets cx hp (T := TX8) 8 3 91 rfl zin_8 (by decide) (by decide) ru0 rfl fl_X8_15 dX8_seek_29 ?_
        refine lv_aload_n cx.1 cx.2.1 dX8_seek_32 rfl (lv_at hl 1 rfl) ?_
        refine lv_aload_n cx.1 cx.2.1 dX8_seek_33 rfl (lv_at hl 2 rfl) ?_
        refine z_ci cx hp (fun o' hx => zrunV (n := 5) (As := [.ref (B + u1), .ref (B + u2)]) (rest := []) cx hp (mX5_firstBroken F l g B h 91 u1 u2 (zs_8_3 u0 (kt_lt ru0 (by decide)) ru0) ru1 ru2 o' hx) 5 (zs_8_3 u0 (kt_lt ru0 (by decide)) ru0) (by decide) rfl vw_X5_firstBroken ml_X8_27 (by decide) rfl hl.1 rfl (Nat.le_of_ble_eq_true rfl) dX8_seek_34) hf (fun r1 h H locs rr1 hp hf => ?_)
        refine z_iconst cx dX8_seek_37 ?_
        refine z_jn hf (fun j => ∀ (x46_5 : Int) (y46_0 : Int) (h : HF) (H : Heap) (locs : List Loc) (ls : Array Slot), rng x46_5 → rng y46_0 → Hp g B s h H locs → lv_has ls 7 [(0, .ref (B + u0)), (1, .ref (B + u1)), (2, .ref (B + u2)), (3, .int (ii u3)), (5, .int (ii x46_5))] → j x46_5 y46_0 h = some o → W p l e (rmn 5) s m args below meth c H locs 0 0 Q (F0 m 46 ls [.int (ii y46_0)])) ?_ (fun j46 hj46 hf => ?_)
        · intro x46_5 y46_0 h H locs ls rx46_5 ry46_0 hp hl hf
          refine lv_istore (lv' := [(6, .int (ii y46_0)), (0, .ref (B + u0)), (1, .ref (B + u1)), (2, .ref (B + u2)), (3, .int (ii u3)), (5, .int (ii x46_5))]) cx.1 cx.2.1 dX8_seek_46 hl (by decide) rfl (fun ls hl => ?_)
          refine lv_iload cx.1 cx.2.1 dX8_seek_48 (lv_at hl 0 rfl) ?_
          refine z_jn hf (fun j => ∀ (x165_4 : Int) (x165_5 : Int) (h : HF) (H : Heap) (locs : List Loc) (ls : Array Slot), rng x165_4 → rng x165_5 → Hp g B s h H locs → lv_has ls 7 [(0, .ref (B + u0)), (1, .ref (B + u1)), (2, .ref (B + u2)), (3, .int (ii u3)), (4, .int (ii x165_4)), (5, .int (ii x165_5))] → j x165_4 x165_5 h = some o → W p l e (rmn 5) s m args below meth c H locs 0 0 Q (F0 m 165 ls [])) ?_ (fun j165 hj165 hf => ?_)
          · intro x165_4 x165_5 h H locs ls rx165_4 rx165_5 hp hl hf
            refine z_iinc cx (fun x2 => [(5, .int (ii x2)), (0, .ref (B + u0)), (1, .ref (B + u1)), (2, .ref (B + u2)), (3, .int (ii u3)), (4, .int (ii x165_4))]) dX8_seek_165 hl (k := 5) rfl (by decide) (fun _ => rfl) hf (fun x2 rx2 hf ls hl => ?_)
            refine lv_goto (tgt := 16) cx.1 cx.2.1 dX8_seek_168 (by decide) ?_
            exact ih x165_4 x2 h _ _ ls rx165_4 rx2 hp (lv_sub hl [1, 2, 3, 4, 5, 0] rfl) hf
          refine z_jn hf (fun j => ∀ (x65_5 : Int) (x65_6 : Int) (h : HF) (H : Heap) (locs : List Loc) (ls : Array Slot), rng x65_5 → rng x65_6 → Hp g B s h H locs → lv_has ls 7 [(0, .ref (B + u0)), (1, .ref (B + u1)), (2, .ref (B + u2)), (3, .int (ii u3)), (5, .int (ii x65_5)), (6, .int (ii x65_6))] → j x65_5 x65_6 h = some o → W p l e (rmn 5) s m args below meth c H locs 0 0 Q (F0 m 65 ls [])) ?_ (fun j65 hj65 hf => ?_)
          · intro x65_5 x65_6 h H locs ls rx65_5 rx65_6 hp hl hf
            refine lv_aload_n cx.1 cx.2.1 dX8_seek_65 rfl (lv_at hl 0 rfl) ?_
            refine lv_aload_n cx.1 cx.2.1 dX8_seek_66 rfl (lv_at hl 1 rfl) ?_
            refine lv_iload cx.1 cx.2.1 dX8_seek_67 (lv_at hl 5 rfl) ?_
            refine z_jn hf (fun j => ∀ (x89_5 : Int) (y89_0 : Int) (y89_1 : Nat) (y89_2 : Nat) (h : HF) (H : Heap) (locs : List Loc) (ls : Array Slot), rng x89_5 → rng y89_0 → kt y89_1 = 3 → kt y89_2 = 11 → Hp g B s h H locs → lv_has ls 7 [(0, .ref (B + u0)), (1, .ref (B + u1)), (2, .ref (B + u2)), (3, .int (ii u3)), (5, .int (ii x89_5))] → j x89_5 y89_0 y89_1 y89_2 h = some o → W p l e (rmn 5) s m args below meth c H locs 0 0 Q (F0 m 89 ls [.int (ii y89_0), .ref (B + y89_1), .ref (B + y89_2)])) ?_ (fun j89 hj89 hf => ?_)
            · intro x89_5 y89_0 y89_1 y89_2 h H locs ls rx89_5 ry89_0 ry89_1 ry89_2 hp hl hf
              refine z_ci cx hp (fun o' hx => zrunV (n := 5) (As := [.ref (B + y89_1), .int (ii y89_0)]) (rest := []) cx hp (mX8_advance F l g B h y89_2 y89_1 y89_0 ry89_2 ry89_1 ry89_0 o' hx) 8 ry89_2 (by decide) rfl vw_X8_advance ml_X8_43 (by decide) rfl hl.1 rfl (Nat.le_of_ble_eq_true rfl) dX8_seek_89) hf (fun r3 h H locs rr3 hp hf => ?_)
              refine lv_istore (lv' := [(4, .int (ii r3)), (0, .ref (B + u0)), (1, .ref (B + u1)), (2, .ref (B + u2)), (3, .int (ii u3)), (5, .int (ii x89_5))]) cx.1 cx.2.1 dX8_seek_92 hl (by decide) rfl (fun ls hl => ?_)
              refine lv_goto (tgt := 165) cx.1 cx.2.1 dX8_seek_94 (by decide) ?_
              exact hj165 r3 x89_5 h _ _ ls rr3 rx89_5 hp (lv_sub hl [1, 2, 3, 4, 0, 5] rfl) hf
            refine z_if_eq cx rx65_6 (tgt := 82) dX8_seek_69 (by decide) hf (fun _ hf => ?_) (fun _ hf => ?_)
            · refine lv_aload_n cx.1 cx.2.1 dX8_seek_82 rfl (lv_at hl 0 rfl) ?_
              refine z_gets cx hp (T := TX8) 8 2 105 rfl zin_8 (by decide) (by decide) ru0 rfl fl_X8_9 dX8_seek_83 ?_
              refine z_geti cx hp (T := TX6) 6 3 rfl zin_6 (by decide) (by decide) (zs_8_2 u0 (kt_lt ru0 (by decide)) ru0) rfl fl_X8_42 dX8_seek_86 hf (fun x4 rx4 hf => ?_)
              exact hj89 x65_5 x4 u1 u0 h _ _ ls rx65_5 rx4 ru1 ru0 hp (lv_sub hl [0, 1, 2, 3, 4] rfl) hf
            · refine lv_aload_n cx.1 cx.2.1 dX8_seek_72 rfl (lv_at hl 0 rfl) ?_
              refine z_gets cx hp (T := TX8) 8 3 91 rfl zin_8 (by decide) (by decide) ru0 rfl fl_X8_15 dX8_seek_73 ?_
              refine z_geti cx hp (T := TX5) 5 2 rfl zin_5 (by decide) (by decide) (zs_8_3 u0 (kt_lt ru0 (by decide)) ru0) rfl fl_X8_39 dX8_seek_76 hf (fun x5 rx5 hf => ?_)
              refine lv_goto (tgt := 89) cx.1 cx.2.1 dX8_seek_79 (by decide) ?_
              exact hj89 x65_5 x5 u1 u0 h _ _ ls rx65_5 rx5 ru1 ru0 hp (lv_sub hl [0, 1, 2, 3, 4] rfl) hf
          refine z_if_ne cx ry46_0 (tgt := 65) dX8_seek_50 (by decide) hf (fun _ hf => ?_) (fun _ hf => ?_)
          · refine lv_aload_n cx.1 cx.2.1 dX8_seek_53 rfl (lv_at hl 1 rfl) ?_
            refine z_gets cx hp (T := TX8) 8 2 105 rfl zin_8 (by decide) (by decide) ru0 rfl fl_X8_9 dX8_seek_54 ?_
            refine lv_aload_n cx.1 cx.2.1 dX8_seek_57 rfl (lv_at hl 2 rfl) ?_
            refine z_iconst cx dX8_seek_58 ?_
            refine z_ci cx hp (fun o' hx => zrunV (n := 5) (As := [.ref (B + u1), .int (ii 1)]) (rest := []) cx hp (mX6_seek F l g B h 105 u1 1 (zs_8_2 u0 (kt_lt ru0 (by decide)) ru0) ru1 (by decide) o' hx) 6 (zs_8_2 u0 (kt_lt ru0 (by decide)) ru0) (by decide) rfl vw_X6_seek ml_X8_33 (by decide) rfl hl.1 rfl (Nat.le_of_ble_eq_true rfl) dX8_seek_59) hf (fun r6 h H locs rr6 hp hf => ?_)
            refine z_if_ne cx rr6 (tgt := 97) dX8_seek_62 (by decide) hf (fun _ hf => ?_) (fun _ hf => ?_)
            · exact hj65 x46_5 y46_0 h _ _ ls rx46_5 ry46_0 hp (lv_sub hl [1, 2, 3, 4, 5, 0] rfl) hf
            · refine lv_aload_n cx.1 cx.2.1 dX8_seek_97 rfl (lv_at hl 1 rfl) ?_
              refine z_geti cx hp (T := TX8) 8 0 rfl zin_8 (by decide) (by decide) ru0 rfl fl_X8_19 dX8_seek_98 hf (fun x7 rx7 hf => ?_)
              refine lv_iload_n cx.1 cx.2.1 dX8_seek_101 rfl (lv_at hl 4 rfl) ?_
              refine z_icmp_ne cx rx7 ru3 (tgt := 107) dX8_seek_102 (by decide) hf (fun _ hf => ?_) (fun _ hf => ?_)
              · exact hk105  h _ _ ls  hp (lv_sub hl [] rfl) hf
              · refine lv_aload_n cx.1 cx.2.1 dX8_seek_107 rfl (lv_at hl 1 rfl) ?_
                refine lv_dup cx.1 cx.2.1 dX8_seek_108 rfl ?_
                refine z_geti cx hp (T := TX8) 8 0 rfl zin_8 (by decide) (by decide) ru0 rfl fl_X8_19 dX8_seek_109 hf (fun x8 rx8 hf => ?_)
                refine z_iconst cx dX8_seek_112 ?_
                refine z_iadd cx dX8_seek_113 ?_
                refine z_puti cx hp (T := TX8) tyX8 tyX8_ok nmX8 8 0 (rng_wr _) rfl zin_8 (by decide) (by decide) ru0 rfl rfl rfl fl_X8_19 dX8_seek_114 hf (fun h H locs hp hf => ?_)
                refine lv_aload_n cx.1 cx.2.1 dX8_seek_117 rfl (lv_at hl 1 rfl) ?_
                refine z_gets cx hp (T := TX8) 8 2 105 rfl zin_8 (by decide) (by decide) ru0 rfl fl_X8_9 dX8_seek_118 ?_
                refine z_geti cx hp (T := TX6) 6 2 rfl zin_6 (by decide) (by decide) (zs_8_2 u0 (kt_lt ru0 (by decide)) ru0) rfl fl_X8_47 dX8_seek_121 hf (fun x9 rx9 hf => ?_)
                refine z_jn hf (fun j => ∀ (x152_5 : Int) (h : HF) (H : Heap) (locs : List Loc) (ls : Array Slot), rng x152_5 → Hp g B s h H locs → lv_has ls 7 [(0, .ref (B + u0)), (1, .ref (B + u1)), (2, .ref (B + u2)), (3, .int (ii u3)), (5, .int (ii x152_5))] → j x152_5 h = some o → W p l e (rmn 5) s m args below meth c H locs 0 0 Q (F0 m 152 ls [])) ?_ (fun j152 hj152 hf => ?_)
                · intro x152_5 h H locs ls rx152_5 hp hl hf
                  refine lv_aload_n cx.1 cx.2.1 dX8_seek_152 rfl (lv_at hl 0 rfl) ?_
                  refine lv_aload_n cx.1 cx.2.1 dX8_seek_153 rfl (lv_at hl 1 rfl) ?_
                  refine lv_aload_n cx.1 cx.2.1 dX8_seek_154 rfl (lv_at hl 1 rfl) ?_
                  refine z_ci cx hp (fun o' hx => zrunV (n := 5) (As := []) (rest := [.ref (B + u1), .ref (B + u0)]) cx hp (mX0_cellCount F l g B h u1 ru1 o' hx) 0 ru1 (by decide) rfl vw_X0_cellCount ml_X8_59 (by decide) rfl hl.1 rfl (Nat.le_of_ble_eq_true rfl) dX8_seek_155) hf (fun r10 h H locs rr10 hp hf => ?_)
                  refine z_iconst cx dX8_seek_158 ?_
                  refine z_isub cx dX8_seek_159 ?_
                  refine z_ci cx hp (fun o' hx => zrunV (n := 5) (As := [.ref (B + u1), .int (ii (wr (r10 - 1)))]) (rest := []) cx hp (mX8_advance F l g B h u0 u1 (wr (r10 - 1)) ru0 ru1 (rng_wr _) o' hx) 8 ru0 (by decide) rfl vw_X8_advance ml_X8_43 (by decide) rfl hl.1 rfl (Nat.le_of_ble_eq_true rfl) dX8_seek_160) hf (fun r11 h H locs rr11 hp hf => ?_)
                  refine lv_istore (lv' := [(4, .int (ii r11)), (0, .ref (B + u0)), (1, .ref (B + u1)), (2, .ref (B + u2)), (3, .int (ii u3)), (5, .int (ii x152_5))]) cx.1 cx.2.1 dX8_seek_163 hl (by decide) rfl (fun ls hl => ?_)
                  exact hj165 r11 x152_5 h _ _ ls rr11 rx152_5 hp (lv_sub hl [1, 2, 3, 4, 0, 5] rfl) hf
                refine z_if_le cx rx9 (tgt := 152) dX8_seek_124 (by decide) hf (fun _ hf => ?_) (fun _ hf => ?_)
                · refine lv_aload_n cx.1 cx.2.1 dX8_seek_127 rfl (lv_at hl 1 rfl) ?_
                  refine lv_dup cx.1 cx.2.1 dX8_seek_128 rfl ?_
                  refine z_geti cx hp (T := TX8) 8 1 rfl zin_8 (by decide) (by decide) ru0 rfl fl_X8_23 dX8_seek_129 hf (fun x12 rx12 hf => ?_)
                  refine z_getnum cx hp (aw_m5 125 (by decide +kernel) rfl) dX8_seek_132 (fun t13 ht13 => ?_)
                  refine lv_aload_n cx.1 cx.2.1 dX8_seek_135 rfl (lv_at hl 2 rfl) ?_
                  refine z_geti cx hp (T := TX0) 0 0 rfl zin_0 (by decide) (by decide) ru1 rfl fl_X8_54 dX8_seek_136 hf (fun x14 rx14 hf => ?_)
                  refine z_aldnum cx hp ht13 rx14 dX8_seek_139 hf (fun x15 rx15 hf => ?_)
                  refine lv_aload_n cx.1 cx.2.1 dX8_seek_140 rfl (lv_at hl 1 rfl) ?_
                  refine z_gets cx hp (T := TX8) 8 2 105 rfl zin_8 (by decide) (by decide) ru0 rfl fl_X8_9 dX8_seek_141 ?_
                  refine z_geti cx hp (T := TX6) 6 2 rfl zin_6 (by decide) (by decide) (zs_8_2 u0 (kt_lt ru0 (by decide)) ru0) rfl fl_X8_47 dX8_seek_144 hf (fun x16 rx16 hf => ?_)
                  refine z_idiv cx rx15 rx16 dX8_seek_147 hf (fun hf => ?_)
                  refine z_iadd cx dX8_seek_148 ?_
                  refine z_puti cx hp (T := TX8) tyX8 tyX8_ok nmX8 8 1 (rng_wr _) rfl zin_8 (by decide) (by decide) ru0 rfl rfl rfl fl_X8_23 dX8_seek_149 hf (fun h H locs hp hf => ?_)
                  exact hj152 x46_5 h _ _ ls rx46_5 hp (lv_sub hl [1, 2, 3, 4, 5] rfl) hf
                · exact hj152 x46_5 h _ _ ls rx46_5 hp (lv_sub hl [1, 2, 3, 4, 5] rfl) hf
          · exact hj65 x46_5 y46_0 h _ _ ls rx46_5 ry46_0 hp (lv_sub hl [1, 2, 3, 4, 5, 0] rfl) hf
        refine z_icmp_eq cx rr1 (by decide) (tgt := 45) dX8_seek_38 (by decide) hf (fun _ hf => ?_) (fun _ hf => ?_)
        · refine z_iconst cx dX8_seek_45 ?_
          exact hj46 v5 0 h _ _ ls rv5 (by decide) hp (lv_sub hl [0, 1, 2, 3, 5] rfl) hf
        · refine z_iconst cx dX8_seek_41 ?_
          refine lv_goto (tgt := 46) cx.1 cx.2.1 dX8_seek_42 (by decide) ?_
          exact hj46 v5 1 h _ _ ls rv5 (by decide) hp (lv_sub hl [0, 1, 2, 3, 5] rfl) hf
    · exact hk171  h _ _ ls  hp (lv_sub hl [] rfl) hf
def fX8_seek (F : Nat) (a0 : Nat) (a1 : Nat) (a2 : Nat) (a3 : Int) (h : HF) : RO :=
  zpf h a0 0 0 fun h =>
  zpf h a0 1 0 fun h =>
  zjn (fun  (h : HF) => (
    zrz 0 h
  )) fun j171 =>
  zjn (fun  (h : HF) => (
    zrz 1 h
  )) fun j105 =>
  LX8_seek_16 F a0 a1 a2 a3 j171 j105 F 1 0 h
set_option maxHeartbeats 4000000 in
set_option maxRecDepth 100000 in
theorem mX8_seek (F : Nat) (l : Launch) (g : zG) (B : Nat) (h : HF) (a0 : Nat) (a1 : Nat) (a2 : Nat) (a3 : Int) (ra0 : kt a0 = 11) (ra1 : kt a1 = 3) (ra2 : kt a2 = 7) (ra3 : rng a3) : CTi l g B yX8_seek cX8_seek 7 (some .boolean) 5 [.ref (B + a0), .ref (B + a1), .ref (B + a2), .int (ii a3)] h (fX8_seek F a0 a1 a2 a3 h) := by
  refine z_enterI (by decide) rfl (Nat.le_of_ble_eq_true rfl) ?_
  intro p e s m args below meth c ls o Q cx hp hl hf hQ
  have hl : lv_has ls 7 [(0, .ref (B + a0)), (1, .ref (B + a1)), (2, .ref (B + a2)), (3, .int (ii a3))] := hl
  unfold fX8_seek at hf
  refine lv_aload_n cx.1 cx.2.1 dX8_seek_0 rfl (lv_at hl 0 rfl) ?_
  refine z_iconst cx dX8_seek_1 ?_
  refine z_puti cx hp (T := TX8) tyX8 tyX8_ok nmX8 8 0 (by decide) rfl zin_8 (by decide) (by decide) ra0 rfl rfl rfl fl_X8_19 dX8_seek_2 hf (fun h H locs hp hf => ?_)
  refine lv_aload_n cx.1 cx.2.1 dX8_seek_5 rfl (lv_at hl 0 rfl) ?_
  refine z_iconst cx dX8_seek_6 ?_
  refine z_puti cx hp (T := TX8) tyX8 tyX8_ok nmX8 8 1 (by decide) rfl zin_8 (by decide) (by decide) ra0 rfl rfl rfl fl_X8_23 dX8_seek_7 hf (fun h H locs hp hf => ?_)
  refine z_iconst cx dX8_seek_10 ?_
  refine lv_istore (lv' := [(4, .int (ii 1)), (0, .ref (B + a0)), (1, .ref (B + a1)), (2, .ref (B + a2)), (3, .int (ii a3))]) cx.1 cx.2.1 dX8_seek_11 hl (by decide) rfl (fun ls hl => ?_)
  refine z_iconst cx dX8_seek_13 ?_
  refine lv_istore (lv' := [(5, .int (ii 0)), (4, .int (ii 1)), (0, .ref (B + a0)), (1, .ref (B + a1)), (2, .ref (B + a2)), (3, .int (ii a3))]) cx.1 cx.2.1 dX8_seek_14 hl (by decide) rfl (fun ls hl => ?_)
  refine z_jn hf (fun j => ∀  (h : HF) (H : Heap) (locs : List Loc) (ls : Array Slot), Hp g B s h H locs → lv_has ls 7 [] → j  h = some o → W p l e (rmn 5) s m args below meth c H locs 0 0 Q (F0 m 171 ls [])) ?_ (fun j171 hj171 hf => ?_)
  · intro  h H locs ls  hp hl hf
    refine z_iconst cx dX8_seek_171 ?_
    rw [hQ]; exact z_zret cx hp dX8_seek_172 hf
  refine z_jn hf (fun j => ∀  (h : HF) (H : Heap) (locs : List Loc) (ls : Array Slot), Hp g B s h H locs → lv_has ls 7 [] → j  h = some o → W p l e (rmn 5) s m args below meth c H locs 0 0 Q (F0 m 105 ls [])) ?_ (fun j105 hj105 hf => ?_)
  · intro  h H locs ls  hp hl hf
    refine z_iconst cx dX8_seek_105 ?_
    rw [hQ]; exact z_zret cx hp dX8_seek_106 hf
  exact wX8_seek_16 F cx a0 ra0 a1 ra1 a2 ra2 a3 ra3 j171 hj171 j105 hj105 F 1 0 h _ _ ls (by decide) (by decide) hp (lv_sub hl [2, 3, 4, 5, 1, 0] rfl) hf
theorem dX9_combineUpTo_0 : decode cX9_combineUpTo 0 = .ok (.aload_n 0, 1) := by decide +kernel
theorem dX9_combineUpTo_1 : decode cX9_combineUpTo 1 = .ok (.getfield 21, 3) := by decide +kernel
theorem dX9_combineUpTo_4 : decode cX9_combineUpTo 4 = .ok (.getfield 48, 3) := by decide +kernel
theorem dX9_combineUpTo_7 : decode cX9_combineUpTo 7 = .ok (.iload_n 1, 1) := by decide +kernel
theorem dX9_combineUpTo_8 : decode cX9_combineUpTo 8 = .ok (.iaload, 1) := by decide +kernel
theorem dX9_combineUpTo_9 : decode cX9_combineUpTo 9 = .ok (.iconst 2, 1) := by decide +kernel
theorem dX9_combineUpTo_10 : decode cX9_combineUpTo 10 = .ok (.if_icmp .ge 11, 3) := by decide +kernel
theorem dX9_combineUpTo_13 : decode cX9_combineUpTo 13 = .ok (.aload_n 0, 1) := by decide +kernel
theorem dX9_combineUpTo_14 : decode cX9_combineUpTo 14 = .ok (.iload_n 1, 1) := by decide +kernel
theorem dX9_combineUpTo_15 : decode cX9_combineUpTo 15 = .ok (.iload_n 2, 1) := by decide +kernel
theorem dX9_combineUpTo_16 : decode cX9_combineUpTo 16 = .ok (.iload_n 2, 1) := by decide +kernel
theorem dX9_combineUpTo_17 : decode cX9_combineUpTo 17 = .ok (.invokevirtual 51, 3) := by decide +kernel
theorem dX9_combineUpTo_20 : decode cX9_combineUpTo 20 = .ok (.return_, 1) := by decide +kernel
theorem dX9_combineUpTo_21 : decode cX9_combineUpTo 21 = .ok (.iconst 0, 1) := by decide +kernel
theorem dX9_combineUpTo_22 : decode cX9_combineUpTo 22 = .ok (.istore_n 3, 1) := by decide +kernel
theorem dX9_combineUpTo_23 : decode cX9_combineUpTo 23 = .ok (.iload_n 3, 1) := by decide +kernel
theorem dX9_combineUpTo_24 : decode cX9_combineUpTo 24 = .ok (.iload_n 2, 1) := by decide +kernel
theorem dX9_combineUpTo_25 : decode cX9_combineUpTo 25 = .ok (.if_icmp .gt 30, 3) := by decide +kernel
theorem dX9_combineUpTo_28 : decode cX9_combineUpTo 28 = .ok (.aload_n 0, 1) := by decide +kernel
theorem dX9_combineUpTo_29 : decode cX9_combineUpTo 29 = .ok (.getfield 29, 3) := by decide +kernel
theorem dX9_combineUpTo_32 : decode cX9_combineUpTo 32 = .ok (.ifCond .ne 23, 3) := by decide +kernel
theorem dX9_combineUpTo_35 : decode cX9_combineUpTo 35 = .ok (.aload_n 0, 1) := by decide +kernel
theorem dX9_combineUpTo_36 : decode cX9_combineUpTo 36 = .ok (.iload_n 1, 1) := by decide +kernel
theorem dX9_combineUpTo_37 : decode cX9_combineUpTo 37 = .ok (.iload_n 2, 1) := by decide +kernel
theorem dX9_combineUpTo_38 : decode cX9_combineUpTo 38 = .ok (.iload_n 3, 1) := by decide +kernel
theorem dX9_combineUpTo_39 : decode cX9_combineUpTo 39 = .ok (.invokevirtual 51, 3) := by decide +kernel
theorem dX9_combineUpTo_42 : decode cX9_combineUpTo 42 = .ok (.aload_n 0, 1) := by decide +kernel
theorem dX9_combineUpTo_43 : decode cX9_combineUpTo 43 = .ok (.iload_n 1, 1) := by decide +kernel
theorem dX9_combineUpTo_44 : decode cX9_combineUpTo 44 = .ok (.iload_n 3, 1) := by decide +kernel
theorem dX9_combineUpTo_45 : decode cX9_combineUpTo 45 = .ok (.iload_n 2, 1) := by decide +kernel
theorem dX9_combineUpTo_46 : decode cX9_combineUpTo 46 = .ok (.invokevirtual 51, 3) := by decide +kernel
theorem dX9_combineUpTo_49 : decode cX9_combineUpTo 49 = .ok (.iinc 3 1, 3) := by decide +kernel
theorem dX9_combineUpTo_52 : decode cX9_combineUpTo 52 = .ok (.goto (-29), 3) := by decide +kernel
theorem dX9_combineUpTo_55 : decode cX9_combineUpTo 55 = .ok (.return_, 1) := by decide +kernel
def LX9_combineUpTo_23 (F : Nat) (u0 : Nat) (u1 : Int) (u2 : Int) (k55 : HF → RO) : Nat → Int → HF → RO
  | 0, _, _ => none
  | n + 1, v3, h =>
    if u2 < v3 then (
      k55  h
    ) else (
      zgf h u0 2 fun x4 =>
      if x4 = 0 then (
        zbd (fX9_combine F u0 u1 u2 v3 h) fun _ h =>
        zbd (fX9_combine F u0 u1 v3 u2 h) fun _ h =>
        zlet (wr (v3 + 1)) fun x7 =>
        LX9_combineUpTo_23 F u0 u1 u2 k55 n x7 h
      ) else (
        k55  h
      )
    )
set_option maxHeartbeats 4000000 in
set_option maxRecDepth 100000 in
theorem wX9_combineUpTo_23 {p : Program} {l : Launch} {e : Env} {s : State} {m : MethodId} {args : Array Value} {below : List Frame} {meth : Method} {c : Code} {Q : State → Prop} {g : zG} {B : Nat} {o : Int × HF} (F : Nat) (cx : Cx p s m args meth c cX9_combineUpTo 4 RX9 none g B) (u0 : Nat) (ru0 : kt u0 = 12) (u1 : Int) (ru1 : rng u1) (u2 : Int) (ru2 : rng u2) (k55 : HF → RO) (hk55 : ∀  (h : HF) (H : Heap) (locs : List Loc) (ls : Array Slot), Hp g B s h H locs → lv_has ls 4 [] → k55  h = some o → W p l e (rmn 3) s m args below meth c H locs 0 0 Q (F0 m 55 ls [])) : ∀ (n : Nat) (v3 : Int) (h : HF) (H : Heap) (locs : List Loc) (ls : Array Slot), rng v3 → Hp g B s h H locs → lv_has ls 4 [(0, .ref (B + u0)), (1, .int (ii u1)), (2, .int (ii u2)), (3, .int (ii v3))] → LX9_combineUpTo_23 F u0 u1 u2 k55 n v3 h = some o → W p l e (rmn 3) s m args below meth c H locs 0 0 Q (F0 m 23 ls []) := by
  intro n
  induction n with
  | zero =>
    intro v3 h H locs ls rv3 hp hl hf
    cases hf
  | succ n ih =>
    intro v3 h H locs ls rv3 hp hl hf
    rw [LX9_combineUpTo_23] at hf
    refine lv_iload_n cx.1 cx.2.1 dX9_combineUpTo_23 rfl (lv_at hl 3 rfl) ?_
    refine lv_iload_n cx.1 cx.2.1 dX9_combineUpTo_24 rfl (lv_at hl 2 rfl) ?_
    refine z_icmp_gt cx rv3 ru2 (tgt := 55) dX9_combineUpTo_25 (by decide) hf (fun _ hf => ?_) (fun _ hf => ?_)
    · exact hk55  h _ _ ls  hp (lv_sub hl [] rfl) hf
    · refine lv_aload_n cx.1 cx.2.1 dX9_combineUpTo_28 rfl (lv_at hl 0 rfl) ?_
      refine z_getz cx hp (T := TX9) 9 2 rfl zin_9 (by decide) (by decide) ru0 rfl fl_X9_29 dX9_combineUpTo_29 hf (fun x4 rx4 hf => ?_)
      refine z_if_ne cx rx4 (tgt := 55) dX9_combineUpTo_32 (by decide) hf (fun _ hf => ?_) (fun _ hf => ?_)
      · refine lv_aload_n cx.1 cx.2.1 dX9_combineUpTo_35 rfl (lv_at hl 0 rfl) ?_
        refine lv_iload_n cx.1 cx.2.1 dX9_combineUpTo_36 rfl (lv_at hl 1 rfl) ?_
        refine lv_iload_n cx.1 cx.2.1 dX9_combineUpTo_37 rfl (lv_at hl 2 rfl) ?_
        refine lv_iload_n cx.1 cx.2.1 dX9_combineUpTo_38 rfl (lv_at hl 3 rfl) ?_
        refine z_cv cx hp (fun o' hx => zrunV (n := 3) (As := [.int (ii u1), .int (ii u2), .int (ii v3)]) (rest := []) cx hp (mX9_combine F l g B h u0 u1 u2 v3 ru0 ru1 ru2 rv3 o' hx) 9 ru0 (by decide) rfl vw_X9_combine ml_X9_51 (by decide) rfl hl.1 rfl (Nat.le_of_ble_eq_true rfl) dX9_combineUpTo_39) hf (fun _ h H locs hp hf => ?_)
        refine lv_aload_n cx.1 cx.2.1 dX9_combineUpTo_42 rfl (lv_at hl 0 rfl) ?_
        refine lv_iload_n cx.1 cx.2.1 dX9_combineUpTo_43 rfl (lv_at hl 1 rfl) ?_
        refine lv_iload_n cx.1 cx.2.1 dX9_combineUpTo_44 rfl (lv_at hl 3 rfl) ?_
        refine lv_iload_n cx.1 cx.2.1 dX9_combineUpTo_45 rfl (lv_at hl 2 rfl) ?_
        refine z_cv cx hp (fun o' hx => zrunV (n := 3) (As := [.int (ii u1), .int (ii v3), .int (ii u2)]) (rest := []) cx hp (mX9_combine F l g B h u0 u1 v3 u2 ru0 ru1 rv3 ru2 o' hx) 9 ru0 (by decide) rfl vw_X9_combine ml_X9_51 (by decide) rfl hl.1 rfl (Nat.le_of_ble_eq_true rfl) dX9_combineUpTo_46) hf (fun _ h H locs hp hf => ?_)
        refine z_iinc cx (fun x7 => [(3, .int (ii x7)), (0, .ref (B + u0)), (1, .int (ii u1)), (2, .int (ii u2))]) dX9_combineUpTo_49 hl (k := 3) rfl (by decide) (fun _ => rfl) hf (fun x7 rx7 hf ls hl => ?_)
        refine lv_goto (tgt := 23) cx.1 cx.2.1 dX9_combineUpTo_52 (by decide) ?_
        exact ih x7 h _ _ ls rx7 hp (lv_sub hl [1, 2, 3, 0] rfl) hf
      · exact hk55  h _ _ ls  hp (lv_sub hl [] rfl) hf
def fX9_combineUpTo (F : Nat) (a0 : Nat) (a1 : Int) (a2 : Int) (h : HF) : RO :=
  zgd h a0 5 fun x1 =>
  zrd h (x1 + 1) a1 fun x2 =>
  if x2 < 2 then (
    zbd (fX9_combine F a0 a1 a2 a2 h) fun _ h =>
    some (0, h)
  ) else (
    zjn (fun  (h : HF) => (
      some (0, h)
    )) fun j55 =>
    LX9_combineUpTo_23 F a0 a1 a2 j55 F 0 h
  )
set_option maxHeartbeats 4000000 in
set_option maxRecDepth 100000 in
theorem mX9_combineUpTo (F : Nat) (l : Launch) (g : zG) (B : Nat) (h : HF) (a0 : Nat) (a1 : Int) (a2 : Int) (ra0 : kt a0 = 12) (ra1 : rng a1) (ra2 : rng a2) : CTv l g B yX9_combineUpTo cX9_combineUpTo 4 3 [.ref (B + a0), .int (ii a1), .int (ii a2)] h (fX9_combineUpTo F a0 a1 a2 h) := by
  refine z_enterV (by decide) rfl (Nat.le_of_ble_eq_true rfl) ?_
  intro p e s m args below meth c ls o Q cx hp hl hf hQ
  have hl : lv_has ls 4 [(0, .ref (B + a0)), (1, .int (ii a1)), (2, .int (ii a2))] := hl
  unfold fX9_combineUpTo at hf
  refine lv_aload_n cx.1 cx.2.1 dX9_combineUpTo_0 rfl (lv_at hl 0 rfl) ?_
  refine z_getd cx hp (T := TX9) 9 5 3 rfl zin_9 (by decide) (by decide) ra0 rfl fl_X9_21 dX9_combineUpTo_1 hf (fun x1 rx1 hf => ?_)
  refine z_gets cx hp (T := TX0) 0 3 (x1 + 1) rfl zin_0 (by decide) (by decide) rx1 rfl fl_X9_48 dX9_combineUpTo_4 ?_
  refine lv_iload_n cx.1 cx.2.1 dX9_combineUpTo_7 rfl (lv_at hl 1 rfl) ?_
  refine z_iald cx hp (zs_0_3 x1 (kt_lt rx1 (by decide)) rx1) ra1 dX9_combineUpTo_8 hf (fun x2 rx2 hf => ?_)
  refine z_iconst cx dX9_combineUpTo_9 ?_
  refine z_icmp_ge cx rx2 (by decide) (tgt := 21) dX9_combineUpTo_10 (by decide) hf (fun _ hf => ?_) (fun _ hf => ?_)
  · refine lv_aload_n cx.1 cx.2.1 dX9_combineUpTo_13 rfl (lv_at hl 0 rfl) ?_
    refine lv_iload_n cx.1 cx.2.1 dX9_combineUpTo_14 rfl (lv_at hl 1 rfl) ?_
    refine lv_iload_n cx.1 cx.2.1 dX9_combineUpTo_15 rfl (lv_at hl 2 rfl) ?_
    refine lv_iload_n cx.1 cx.2.1 dX9_combineUpTo_16 rfl (lv_at hl 2 rfl) ?_
    refine z_cv cx hp (fun o' hx => zrunV (n := 3) (As := [.int (ii a1), .int (ii a2), .int (ii a2)]) (rest := []) cx hp (mX9_combine F l g B h a0 a1 a2 a2 ra0 ra1 ra2 ra2 o' hx) 9 ra0 (by decide) rfl vw_X9_combine ml_X9_51 (by decide) rfl hl.1 rfl (Nat.le_of_ble_eq_true rfl) dX9_combineUpTo_17) hf (fun _ h H locs hp hf => ?_)
    rw [hQ]; exact z_vret cx hp dX9_combineUpTo_20 hf
  · refine z_iconst cx dX9_combineUpTo_21 ?_
    refine lv_istore_n (lv' := [(3, .int (ii 0)), (0, .ref (B + a0)), (1, .int (ii a1)), (2, .int (ii a2))]) cx.1 cx.2.1 dX9_combineUpTo_22 rfl hl (by decide) rfl (fun ls hl => ?_)
    refine z_jn hf (fun j => ∀  (h : HF) (H : Heap) (locs : List Loc) (ls : Array Slot), Hp g B s h H locs → lv_has ls 4 [] → j  h = some o → W p l e (rmn 3) s m args below meth c H locs 0 0 Q (F0 m 55 ls [])) ?_ (fun j55 hj55 hf => ?_)
    · intro  h H locs ls  hp hl hf
      rw [hQ]; exact z_vret cx hp dX9_combineUpTo_55 hf
    exact wX9_combineUpTo_23 F cx a0 ra0 a1 ra1 a2 ra2 j55 hj55 F 0 h _ _ ls (by decide) hp (lv_sub hl [1, 2, 3, 0] rfl) hf
theorem dX10_readAlgebra_0 : decode cX10_readAlgebra 0 = .ok (.aload_n 0, 1) := by decide +kernel
theorem dX10_readAlgebra_1 : decode cX10_readAlgebra 1 = .ok (.aload_n 1, 1) := by decide +kernel
theorem dX10_readAlgebra_2 : decode cX10_readAlgebra 2 = .ok (.invokevirtual 43, 3) := by decide +kernel
theorem dX10_readAlgebra_5 : decode cX10_readAlgebra 5 = .ok (.aload_n 0, 1) := by decide +kernel
theorem dX10_readAlgebra_6 : decode cX10_readAlgebra 6 = .ok (.aload_n 2, 1) := by decide +kernel
theorem dX10_readAlgebra_7 : decode cX10_readAlgebra 7 = .ok (.invokevirtual 47, 3) := by decide +kernel
theorem dX10_readAlgebra_10 : decode cX10_readAlgebra 10 = .ok (.aload_n 1, 1) := by decide +kernel
theorem dX10_readAlgebra_11 : decode cX10_readAlgebra 11 = .ok (.iconst 0, 1) := by decide +kernel
theorem dX10_readAlgebra_12 : decode cX10_readAlgebra 12 = .ok (.putfield 38, 3) := by decide +kernel
theorem dX10_readAlgebra_15 : decode cX10_readAlgebra 15 = .ok (.return_, 1) := by decide +kernel
def fX10_readAlgebra (F : Nat) (a0 : Nat) (a1 : Nat) (a2 : Nat) (h : HF) : RO :=
  zbd (fX10_begin F a0 a1 h) fun _ h =>
  zbd (fX10_readTables F a0 a2 h) fun _ h =>
  zpf h a1 1 0 fun h =>
  some (0, h)
set_option maxHeartbeats 4000000 in
set_option maxRecDepth 100000 in
theorem mX10_readAlgebra (F : Nat) (l : Launch) (g : zG) (B : Nat) (h : HF) (a0 : Nat) (a1 : Nat) (a2 : Nat) (ra0 : kt a0 = 13) (ra1 : kt a1 = 4) (ra2 : kt a2 = 3) : CTv l g B yX10_readAlgebra cX10_readAlgebra 3 5 [.ref (B + a0), .ref (B + a1), .ref (B + a2)] h (fX10_readAlgebra F a0 a1 a2 h) := by
  refine z_enterV (by decide) rfl (Nat.le_of_ble_eq_true rfl) ?_
  intro p e s m args below meth c ls o Q cx hp hl hf hQ
  have hl : lv_has ls 3 [(0, .ref (B + a0)), (1, .ref (B + a1)), (2, .ref (B + a2))] := hl
  unfold fX10_readAlgebra at hf
  refine lv_aload_n cx.1 cx.2.1 dX10_readAlgebra_0 rfl (lv_at hl 0 rfl) ?_
  refine lv_aload_n cx.1 cx.2.1 dX10_readAlgebra_1 rfl (lv_at hl 1 rfl) ?_
  refine z_cv cx hp (fun o' hx => zrunV (n := 5) (As := [.ref (B + a1)]) (rest := []) cx hp (mX10_begin F l g B h a0 a1 ra0 ra1 o' hx) 10 ra0 (by decide) rfl vw_X10_begin ml_X10_43 (by decide) rfl hl.1 rfl (Nat.le_of_ble_eq_true rfl) dX10_readAlgebra_2) hf (fun _ h H locs hp hf => ?_)
  refine lv_aload_n cx.1 cx.2.1 dX10_readAlgebra_5 rfl (lv_at hl 0 rfl) ?_
  refine lv_aload_n cx.1 cx.2.1 dX10_readAlgebra_6 rfl (lv_at hl 2 rfl) ?_
  refine z_cv cx hp (fun o' hx => zrunV (n := 5) (As := [.ref (B + a2)]) (rest := []) cx hp (mX10_readTables F l g B h a0 a2 ra0 ra2 o' hx) 10 ra0 (by decide) rfl vw_X10_readTables ml_X10_47 (by decide) rfl hl.1 rfl (Nat.le_of_ble_eq_true rfl) dX10_readAlgebra_7) hf (fun _ h H locs hp hf => ?_)
  refine lv_aload_n cx.1 cx.2.1 dX10_readAlgebra_10 rfl (lv_at hl 1 rfl) ?_
  refine z_iconst cx dX10_readAlgebra_11 ?_
  refine z_puti cx hp (T := TX1) tyX1 tyX1_ok nmX1 1 1 (by decide) rfl zin_1 (by decide) (by decide) ra1 rfl rfl rfl fl_X10_38 dX10_readAlgebra_12 hf (fun h H locs hp hf => ?_)
  rw [hQ]; exact z_vret cx hp dX10_readAlgebra_15 hf
theorem dX10_readLaw_0 : decode cX10_readLaw 0 = .ok (.aload_n 0, 1) := by decide +kernel
theorem dX10_readLaw_1 : decode cX10_readLaw 1 = .ok (.invokevirtual 117, 3) := by decide +kernel
theorem dX10_readLaw_4 : decode cX10_readLaw 4 = .ok (.ifCond .ne 5, 3) := by decide +kernel
theorem dX10_readLaw_7 : decode cX10_readLaw 7 = .ok (.iconst 0, 1) := by decide +kernel
theorem dX10_readLaw_8 : decode cX10_readLaw 8 = .ok (.ireturn, 1) := by decide +kernel
theorem dX10_readLaw_9 : decode cX10_readLaw 9 = .ok (.aload_n 0, 1) := by decide +kernel
theorem dX10_readLaw_10 : decode cX10_readLaw 10 = .ok (.getfield 9, 3) := by decide +kernel
theorem dX10_readLaw_13 : decode cX10_readLaw 13 = .ok (.aload_n 0, 1) := by decide +kernel
theorem dX10_readLaw_14 : decode cX10_readLaw 14 = .ok (.getfield 28, 3) := by decide +kernel
theorem dX10_readLaw_17 : decode cX10_readLaw 17 = .ok (.iaload, 1) := by decide +kernel
theorem dX10_readLaw_18 : decode cX10_readLaw 18 = .ok (.bipush 38, 2) := by decide +kernel
theorem dX10_readLaw_20 : decode cX10_readLaw 20 = .ok (.if_icmp .eq 17, 3) := by decide +kernel
theorem dX10_readLaw_23 : decode cX10_readLaw 23 = .ok (.aload_n 0, 1) := by decide +kernel
theorem dX10_readLaw_24 : decode cX10_readLaw 24 = .ok (.getfield 9, 3) := by decide +kernel
theorem dX10_readLaw_27 : decode cX10_readLaw 27 = .ok (.aload_n 0, 1) := by decide +kernel
theorem dX10_readLaw_28 : decode cX10_readLaw 28 = .ok (.getfield 28, 3) := by decide +kernel
theorem dX10_readLaw_31 : decode cX10_readLaw 31 = .ok (.iaload, 1) := by decide +kernel
theorem dX10_readLaw_32 : decode cX10_readLaw 32 = .ok (.bipush 62, 2) := by decide +kernel
theorem dX10_readLaw_34 : decode cX10_readLaw 34 = .ok (.if_icmp .ne 59, 3) := by decide +kernel
theorem dX10_readLaw_37 : decode cX10_readLaw 37 = .ok (.iconst 0, 1) := by decide +kernel
theorem dX10_readLaw_38 : decode cX10_readLaw 38 = .ok (.istore_n 1, 1) := by decide +kernel
theorem dX10_readLaw_39 : decode cX10_readLaw 39 = .ok (.iload_n 1, 1) := by decide +kernel
theorem dX10_readLaw_40 : decode cX10_readLaw 40 = .ok (.bipush 80, 2) := by decide +kernel
theorem dX10_readLaw_42 : decode cX10_readLaw 42 = .ok (.if_icmp .ge 27, 3) := by decide +kernel
theorem dX10_readLaw_45 : decode cX10_readLaw 45 = .ok (.aload_n 0, 1) := by decide +kernel
theorem dX10_readLaw_46 : decode cX10_readLaw 46 = .ok (.bipush 38, 2) := by decide +kernel
theorem dX10_readLaw_48 : decode cX10_readLaw 48 = .ok (.invokevirtual 107, 3) := by decide +kernel
theorem dX10_readLaw_51 : decode cX10_readLaw 51 = .ok (.ifCond .eq 18, 3) := by decide +kernel
theorem dX10_readLaw_54 : decode cX10_readLaw 54 = .ok (.aload_n 0, 1) := by decide +kernel
theorem dX10_readLaw_55 : decode cX10_readLaw 55 = .ok (.invokevirtual 117, 3) := by decide +kernel
theorem dX10_readLaw_58 : decode cX10_readLaw 58 = .ok (.ifCond .ne 5, 3) := by decide +kernel
theorem dX10_readLaw_61 : decode cX10_readLaw 61 = .ok (.iconst 0, 1) := by decide +kernel
theorem dX10_readLaw_62 : decode cX10_readLaw 62 = .ok (.ireturn, 1) := by decide +kernel
theorem dX10_readLaw_63 : decode cX10_readLaw 63 = .ok (.iinc 1 1, 3) := by decide +kernel
theorem dX10_readLaw_66 : decode cX10_readLaw 66 = .ok (.goto (-27), 3) := by decide +kernel
theorem dX10_readLaw_69 : decode cX10_readLaw 69 = .ok (.aload_n 0, 1) := by decide +kernel
theorem dX10_readLaw_70 : decode cX10_readLaw 70 = .ok (.bipush 62, 2) := by decide +kernel
theorem dX10_readLaw_72 : decode cX10_readLaw 72 = .ok (.invokevirtual 107, 3) := by decide +kernel
theorem dX10_readLaw_75 : decode cX10_readLaw 75 = .ok (.ifCond .ne 9, 3) := by decide +kernel
theorem dX10_readLaw_78 : decode cX10_readLaw 78 = .ok (.aload_n 0, 1) := by decide +kernel
theorem dX10_readLaw_79 : decode cX10_readLaw 79 = .ok (.iconst 1, 1) := by decide +kernel
theorem dX10_readLaw_80 : decode cX10_readLaw 80 = .ok (.invokevirtual 111, 3) := by decide +kernel
theorem dX10_readLaw_83 : decode cX10_readLaw 83 = .ok (.ireturn, 1) := by decide +kernel
theorem dX10_readLaw_84 : decode cX10_readLaw 84 = .ok (.aload_n 0, 1) := by decide +kernel
theorem dX10_readLaw_85 : decode cX10_readLaw 85 = .ok (.invokevirtual 117, 3) := by decide +kernel
theorem dX10_readLaw_88 : decode cX10_readLaw 88 = .ok (.ifCond .ne 5, 3) := by decide +kernel
theorem dX10_readLaw_91 : decode cX10_readLaw 91 = .ok (.iconst 0, 1) := by decide +kernel
theorem dX10_readLaw_92 : decode cX10_readLaw 92 = .ok (.ireturn, 1) := by decide +kernel
theorem dX10_readLaw_93 : decode cX10_readLaw 93 = .ok (.aload_n 0, 1) := by decide +kernel
theorem dX10_readLaw_94 : decode cX10_readLaw 94 = .ok (.getfield 94, 3) := by decide +kernel
theorem dX10_readLaw_97 : decode cX10_readLaw 97 = .ok (.invokevirtual 120, 3) := by decide +kernel
theorem dX10_readLaw_100 : decode cX10_readLaw 100 = .ok (.iconst 1, 1) := by decide +kernel
theorem dX10_readLaw_101 : decode cX10_readLaw 101 = .ok (.ireturn, 1) := by decide +kernel
def LX10_readLaw_39 (F : Nat) (u0 : Nat) (k69 : HF → RO) (k61 : HF → RO) : Nat → Int → HF → RO
  | 0, _, _ => none
  | n + 1, v1, h =>
    if v1 < 80 then (
      zbd (fX10_takes F u0 38 h) fun r9 h =>
      if r9 = 0 then (
        k69  h
      ) else (
        zbd (fX10_readSame F u0 h) fun r10 h =>
        if r10 = 0 then (
          k61  h
        ) else (
          zlet (wr (v1 + 1)) fun x11 =>
          LX10_readLaw_39 F u0 k69 k61 n x11 h
        )
      )
    ) else (
      k69  h
    )
set_option maxHeartbeats 4000000 in
set_option maxRecDepth 100000 in
theorem wX10_readLaw_39 {p : Program} {l : Launch} {e : Env} {s : State} {m : MethodId} {args : Array Value} {below : List Frame} {meth : Method} {c : Code} {Q : State → Prop} {g : zG} {B : Nat} {o : Int × HF} (F : Nat) (cx : Cx p s m args meth c cX10_readLaw 2 RX10 (some .boolean) g B) (u0 : Nat) (ru0 : kt u0 = 13) (k69 : HF → RO) (hk69 : ∀  (h : HF) (H : Heap) (locs : List Loc) (ls : Array Slot), Hp g B s h H locs → lv_has ls 2 [(0, .ref (B + u0))] → k69  h = some o → W p l e (rmn 34) s m args below meth c H locs 0 0 Q (F0 m 69 ls [])) (k61 : HF → RO) (hk61 : ∀  (h : HF) (H : Heap) (locs : List Loc) (ls : Array Slot), Hp g B s h H locs → lv_has ls 2 [] → k61  h = some o → W p l e (rmn 34) s m args below meth c H locs 0 0 Q (F0 m 61 ls [])) : ∀ (n : Nat) (v1 : Int) (h : HF) (H : Heap) (locs : List Loc) (ls : Array Slot), rng v1 → Hp g B s h H locs → lv_has ls 2 [(0, .ref (B + u0)), (1, .int (ii v1))] → LX10_readLaw_39 F u0 k69 k61 n v1 h = some o → W p l e (rmn 34) s m args below meth c H locs 0 0 Q (F0 m 39 ls []) := by
  intro n
  induction n with
  | zero =>
    intro v1 h H locs ls rv1 hp hl hf
    cases hf
  | succ n ih =>
    intro v1 h H locs ls rv1 hp hl hf
    rw [LX10_readLaw_39] at hf
    refine lv_iload_n cx.1 cx.2.1 dX10_readLaw_39 rfl (lv_at hl 1 rfl) ?_
    refine z_bipush cx (by decide) dX10_readLaw_40 ?_
    refine z_icmp_ge cx rv1 (by decide) (tgt := 69) dX10_readLaw_42 (by decide) hf (fun _ hf => ?_) (fun _ hf => ?_)
    · refine lv_aload_n cx.1 cx.2.1 dX10_readLaw_45 rfl (lv_at hl 0 rfl) ?_
      refine z_bipush cx (by decide) dX10_readLaw_46 ?_
      refine z_ci cx hp (fun o' hx => zrunV (n := 34) (As := [.int (ii 38)]) (rest := []) cx hp (mX10_takes F l g B h u0 38 ru0 (by decide) o' hx) 10 ru0 (by decide) rfl vw_X10_takes ml_X10_107 (by decide) rfl hl.1 rfl (Nat.le_of_ble_eq_true rfl) dX10_readLaw_48) hf (fun r9 h H locs rr9 hp hf => ?_)
      refine z_if_eq cx rr9 (tgt := 69) dX10_readLaw_51 (by decide) hf (fun _ hf => ?_) (fun _ hf => ?_)
      · exact hk69  h _ _ ls  hp (lv_sub hl [0] rfl) hf
      · refine lv_aload_n cx.1 cx.2.1 dX10_readLaw_54 rfl (lv_at hl 0 rfl) ?_
        refine z_ci cx hp (fun o' hx => zrunV (n := 34) (As := []) (rest := []) cx hp (mX10_readSame F l g B h u0 ru0 o' hx) 10 ru0 (by decide) rfl vw_X10_readSame ml_X10_117 (by decide) rfl hl.1 rfl (Nat.le_of_ble_eq_true rfl) dX10_readLaw_55) hf (fun r10 h H locs rr10 hp hf => ?_)
        refine z_if_ne cx rr10 (tgt := 63) dX10_readLaw_58 (by decide) hf (fun _ hf => ?_) (fun _ hf => ?_)
        · exact hk61  h _ _ ls  hp (lv_sub hl [] rfl) hf
        · refine z_iinc cx (fun x11 => [(1, .int (ii x11)), (0, .ref (B + u0))]) dX10_readLaw_63 hl (k := 1) rfl (by decide) (fun _ => rfl) hf (fun x11 rx11 hf ls hl => ?_)
          refine lv_goto (tgt := 39) cx.1 cx.2.1 dX10_readLaw_66 (by decide) ?_
          exact ih x11 h _ _ ls rx11 hp (lv_sub hl [1, 0] rfl) hf
    · exact hk69  h _ _ ls  hp (lv_sub hl [0] rfl) hf
def fX10_readLaw (F : Nat) (a0 : Nat) (h : HF) : RO :=
  zbd (fX10_readSame F a0 h) fun r1 h =>
  if r1 = 0 then (
    zrz 0 h
  ) else (
    zgf h a0 3 fun x2 =>
    zrd h (a0 + 1) x2 fun x3 =>
    zjn (fun  (h : HF) => (
      zgd h a0 4 fun x4 =>
      zbd (fX4_endLaw F x4 h) fun _ h =>
      zrz 1 h
    )) fun j93 =>
    zjn (fun  (h : HF) => (
      zjn (fun  (h : HF) => (
        zbd (fX10_takes F a0 62 h) fun r6 h =>
        if r6 = 0 then (
          zbd (fX10_failHere F a0 1 h) fun r7 h =>
          zrz r7 h
        ) else (
          zbd (fX10_readSame F a0 h) fun r8 h =>
          if r8 = 0 then (
            zrz 0 h
          ) else (
            j93  h
          )
        )
      )) fun j69 =>
      zjn (fun  (h : HF) => (
        zrz 0 h
      )) fun j61 =>
      LX10_readLaw_39 F a0 j69 j61 F 0 h
    )) fun j37 =>
    if x3 = 38 then (
      j37  h
    ) else (
      zgf h a0 3 fun x12 =>
      zrd h (a0 + 1) x12 fun x13 =>
      if x13 = 62 then (
        j37  h
      ) else (
        j93  h
      )
    )
  )
set_option maxHeartbeats 4000000 in
set_option maxRecDepth 100000 in
theorem mX10_readLaw (F : Nat) (l : Launch) (g : zG) (B : Nat) (h : HF) (a0 : Nat) (ra0 : kt a0 = 13) : CTi l g B yX10_readLaw cX10_readLaw 2 (some .boolean) 34 [.ref (B + a0)] h (fX10_readLaw F a0 h) := by
  refine z_enterI (by decide) rfl (Nat.le_of_ble_eq_true rfl) ?_
  intro p e s m args below meth c ls o Q cx hp hl hf hQ
  have hl : lv_has ls 2 [(0, .ref (B + a0))] := hl
  unfold fX10_readLaw at hf
  refine lv_aload_n cx.1 cx.2.1 dX10_readLaw_0 rfl (lv_at hl 0 rfl) ?_
  refine z_ci cx hp (fun o' hx => zrunV (n := 34) (As := []) (rest := []) cx hp (mX10_readSame F l g B h a0 ra0 o' hx) 10 ra0 (by decide) rfl vw_X10_readSame ml_X10_117 (by decide) rfl hl.1 rfl (Nat.le_of_ble_eq_true rfl) dX10_readLaw_1) hf (fun r1 h H locs rr1 hp hf => ?_)
  refine z_if_ne cx rr1 (tgt := 9) dX10_readLaw_4 (by decide) hf (fun _ hf => ?_) (fun _ hf => ?_)
  · refine z_iconst cx dX10_readLaw_7 ?_
    rw [hQ]; exact z_zret cx hp dX10_readLaw_8 hf
  · refine lv_aload_n cx.1 cx.2.1 dX10_readLaw_9 rfl (lv_at hl 0 rfl) ?_
    refine z_gets cx hp (T := TX10) 10 5 (a0 + 1) rfl zin_10 (by decide) (by decide) ra0 rfl fl_X10_9 dX10_readLaw_10 ?_
    refine lv_aload_n cx.1 cx.2.1 dX10_readLaw_13 rfl (lv_at hl 0 rfl) ?_
    refine z_geti cx hp (T := TX10) 10 3 rfl zin_10 (by decide) (by decide) ra0 rfl fl_X10_28 dX10_readLaw_14 hf (fun x2 rx2 hf => ?_)
    refine z_iald cx hp (zs_10_5 a0 (kt_lt ra0 (by decide)) ra0) rx2 dX10_readLaw_17 hf (fun x3 rx3 hf => ?_)
    refine z_bipush cx (by decide) dX10_readLaw_18 ?_
    refine z_jn hf (fun j => ∀  (h : HF) (H : Heap) (locs : List Loc) (ls : Array Slot), Hp g B s h H locs → lv_has ls 2 [(0, .ref (B + a0))] → j  h = some o → W p l e (rmn 34) s m args below meth c H locs 0 0 Q (F0 m 93 ls [])) ?_ (fun j93 hj93 hf => ?_)
    · intro  h H locs ls  hp hl hf
      refine lv_aload_n cx.1 cx.2.1 dX10_readLaw_93 rfl (lv_at hl 0 rfl) ?_
      refine z_getd cx hp (T := TX10) 10 4 7 rfl zin_10 (by decide) (by decide) ra0 rfl fl_X10_94 dX10_readLaw_94 hf (fun x4 rx4 hf => ?_)
      refine z_cv cx hp (fun o' hx => zrunV (n := 34) (As := []) (rest := []) cx hp (mX4_endLaw F l g B h x4 rx4 o' hx) 4 rx4 (by decide) rfl vw_X4_endLaw ml_X10_120 (by decide) rfl hl.1 rfl (Nat.le_of_ble_eq_true rfl) dX10_readLaw_97) hf (fun _ h H locs hp hf => ?_)
      refine z_iconst cx dX10_readLaw_100 ?_
      rw [hQ]; exact z_zret cx hp dX10_readLaw_101 hf
    refine z_jn hf (fun j => ∀  (h : HF) (H : Heap) (locs : List Loc) (ls : Array Slot), Hp g B s h H locs → lv_has ls 2 [(0, .ref (B + a0))] → j  h = some o → W p l e (rmn 34) s m args below meth c H locs 0 0 Q (F0 m 37 ls [])) ?_ (fun j37 hj37 hf => ?_)
    · intro  h H locs ls  hp hl hf
      refine z_iconst cx dX10_readLaw_37 ?_
      refine lv_istore_n (lv' := [(1, .int (ii 0)), (0, .ref (B + a0))]) cx.1 cx.2.1 dX10_readLaw_38 rfl hl (by decide) rfl (fun ls hl => ?_)
      refine z_jn hf (fun j => ∀  (h : HF) (H : Heap) (locs : List Loc) (ls : Array Slot), Hp g B s h H locs → lv_has ls 2 [(0, .ref (B + a0))] → j  h = some o → W p l e (rmn 34) s m args below meth c H locs 0 0 Q (F0 m 69 ls [])) ?_ (fun j69 hj69 hf => ?_)
      · intro  h H locs ls  hp hl hf
        refine lv_aload_n cx.1 cx.2.1 dX10_readLaw_69 rfl (lv_at hl 0 rfl) ?_
        refine z_bipush cx (by decide) dX10_readLaw_70 ?_
        refine z_ci cx hp (fun o' hx => zrunV (n := 34) (As := [.int (ii 62)]) (rest := []) cx hp (mX10_takes F l g B h a0 62 ra0 (by decide) o' hx) 10 ra0 (by decide) rfl vw_X10_takes ml_X10_107 (by decide) rfl hl.1 rfl (Nat.le_of_ble_eq_true rfl) dX10_readLaw_72) hf (fun r6 h H locs rr6 hp hf => ?_)
        refine z_if_ne cx rr6 (tgt := 84) dX10_readLaw_75 (by decide) hf (fun _ hf => ?_) (fun _ hf => ?_)
        · refine lv_aload_n cx.1 cx.2.1 dX10_readLaw_78 rfl (lv_at hl 0 rfl) ?_
          refine z_iconst cx dX10_readLaw_79 ?_
          refine z_ci cx hp (fun o' hx => zrunV (n := 34) (As := [.int (ii 1)]) (rest := []) cx hp (mX10_failHere F l g B h a0 1 ra0 (by decide) o' hx) 10 ra0 (by decide) rfl vw_X10_failHere ml_X10_111 (by decide) rfl hl.1 rfl (Nat.le_of_ble_eq_true rfl) dX10_readLaw_80) hf (fun r7 h H locs rr7 hp hf => ?_)
          rw [hQ]; exact z_zret cx hp dX10_readLaw_83 hf
        · refine lv_aload_n cx.1 cx.2.1 dX10_readLaw_84 rfl (lv_at hl 0 rfl) ?_
          refine z_ci cx hp (fun o' hx => zrunV (n := 34) (As := []) (rest := []) cx hp (mX10_readSame F l g B h a0 ra0 o' hx) 10 ra0 (by decide) rfl vw_X10_readSame ml_X10_117 (by decide) rfl hl.1 rfl (Nat.le_of_ble_eq_true rfl) dX10_readLaw_85) hf (fun r8 h H locs rr8 hp hf => ?_)
          refine z_if_ne cx rr8 (tgt := 93) dX10_readLaw_88 (by decide) hf (fun _ hf => ?_) (fun _ hf => ?_)
          · refine z_iconst cx dX10_readLaw_91 ?_
            rw [hQ]; exact z_zret cx hp dX10_readLaw_92 hf
          · exact hj93  h _ _ ls  hp (lv_sub hl [0] rfl) hf
      refine z_jn hf (fun j => ∀  (h : HF) (H : Heap) (locs : List Loc) (ls : Array Slot), Hp g B s h H locs → lv_has ls 2 [] → j  h = some o → W p l e (rmn 34) s m args below meth c H locs 0 0 Q (F0 m 61 ls [])) ?_ (fun j61 hj61 hf => ?_)
      · intro  h H locs ls  hp hl hf
        refine z_iconst cx dX10_readLaw_61 ?_
        rw [hQ]; exact z_zret cx hp dX10_readLaw_62 hf
      exact wX10_readLaw_39 F cx a0 ra0 j69 hj69 j61 hj61 F 0 h _ _ ls (by decide) hp (lv_sub hl [1, 0] rfl) hf
    refine z_icmp_eq cx rx3 (by decide) (tgt := 37) dX10_readLaw_20 (by decide) hf (fun _ hf => ?_) (fun _ hf => ?_)
    · exact hj37  h _ _ ls  hp (lv_sub hl [0] rfl) hf
    · refine lv_aload_n cx.1 cx.2.1 dX10_readLaw_23 rfl (lv_at hl 0 rfl) ?_
      refine z_gets cx hp (T := TX10) 10 5 (a0 + 1) rfl zin_10 (by decide) (by decide) ra0 rfl fl_X10_9 dX10_readLaw_24 ?_
      refine lv_aload_n cx.1 cx.2.1 dX10_readLaw_27 rfl (lv_at hl 0 rfl) ?_
      refine z_geti cx hp (T := TX10) 10 3 rfl zin_10 (by decide) (by decide) ra0 rfl fl_X10_28 dX10_readLaw_28 hf (fun x12 rx12 hf => ?_)
      refine z_iald cx hp (zs_10_5 a0 (kt_lt ra0 (by decide)) ra0) rx12 dX10_readLaw_31 hf (fun x13 rx13 hf => ?_)
      refine z_bipush cx (by decide) dX10_readLaw_32 ?_
      refine z_icmp_ne cx rx13 (by decide) (tgt := 93) dX10_readLaw_34 (by decide) hf (fun _ hf => ?_) (fun _ hf => ?_)
      · exact hj37  h _ _ ls  hp (lv_sub hl [0] rfl) hf
      · exact hj93  h _ _ ls  hp (lv_sub hl [0] rfl) hf
theorem dX11_read_0 : decode cX11_read 0 = .ok (.iload_n 1, 1) := by decide +kernel
theorem dX11_read_1 : decode cX11_read 1 = .ok (.invokestatic 123, 3) := by decide +kernel
theorem dX11_read_4 : decode cX11_read 4 = .ok (.ifCond .ne 17, 3) := by decide +kernel
theorem dX11_read_7 : decode cX11_read 7 = .ok (.aload_n 0, 1) := by decide +kernel
theorem dX11_read_8 : decode cX11_read 8 = .ok (.getfield 53, 3) := by decide +kernel
theorem dX11_read_11 : decode cX11_read 11 = .ok (.aload_n 0, 1) := by decide +kernel
theorem dX11_read_12 : decode cX11_read 12 = .ok (.getfield 14, 3) := by decide +kernel
theorem dX11_read_15 : decode cX11_read 15 = .ok (.invokevirtual 191, 3) := by decide +kernel
theorem dX11_read_18 : decode cX11_read 18 = .ok (.bipush (-3), 2) := by decide +kernel
theorem dX11_read_20 : decode cX11_read 20 = .ok (.ireturn, 1) := by decide +kernel
theorem dX11_read_21 : decode cX11_read 21 = .ok (.aload_n 0, 1) := by decide +kernel
theorem dX11_read_22 : decode cX11_read 22 = .ok (.getfield 53, 3) := by decide +kernel
theorem dX11_read_25 : decode cX11_read 25 = .ok (.aload_n 0, 1) := by decide +kernel
theorem dX11_read_26 : decode cX11_read 26 = .ok (.getfield 14, 3) := by decide +kernel
theorem dX11_read_29 : decode cX11_read 29 = .ok (.aload_n 0, 1) := by decide +kernel
theorem dX11_read_30 : decode cX11_read 30 = .ok (.getfield 28, 3) := by decide +kernel
theorem dX11_read_33 : decode cX11_read 33 = .ok (.invokevirtual 194, 3) := by decide +kernel
theorem dX11_read_36 : decode cX11_read 36 = .ok (.aload_n 0, 1) := by decide +kernel
theorem dX11_read_37 : decode cX11_read 37 = .ok (.getfield 53, 3) := by decide +kernel
theorem dX11_read_40 : decode cX11_read 40 = .ok (.getfield 198, 3) := by decide +kernel
theorem dX11_read_43 : decode cX11_read 43 = .ok (.ifCond .eq 14, 3) := by decide +kernel
theorem dX11_read_46 : decode cX11_read 46 = .ok (.bipush (-100), 2) := by decide +kernel
theorem dX11_read_48 : decode cX11_read 48 = .ok (.aload_n 0, 1) := by decide +kernel
theorem dX11_read_49 : decode cX11_read 49 = .ok (.getfield 53, 3) := by decide +kernel
theorem dX11_read_52 : decode cX11_read 52 = .ok (.getfield 201, 3) := by decide +kernel
theorem dX11_read_55 : decode cX11_read 55 = .ok (.isub, 1) := by decide +kernel
theorem dX11_read_56 : decode cX11_read 56 = .ok (.ireturn, 1) := by decide +kernel
theorem dX11_read_57 : decode cX11_read 57 = .ok (.aload_n 0, 1) := by decide +kernel
theorem dX11_read_58 : decode cX11_read 58 = .ok (.iload_n 1, 1) := by decide +kernel
theorem dX11_read_59 : decode cX11_read 59 = .ok (.invokevirtual 134, 3) := by decide +kernel
theorem dX11_read_62 : decode cX11_read 62 = .ok (.aload_n 0, 1) := by decide +kernel
theorem dX11_read_63 : decode cX11_read 63 = .ok (.getfield 28, 3) := by decide +kernel
theorem dX11_read_66 : decode cX11_read 66 = .ok (.getfield 172, 3) := by decide +kernel
theorem dX11_read_69 : decode cX11_read 69 = .ok (.ireturn, 1) := by decide +kernel
def fX11_read (F : Nat) (a0 : Nat) (a1 : Int) (h : HF) : RO :=
  zbd (fX11_isDrawer F a1 h) fun r1 h =>
  if r1 = 0 then (
    zbd (fX10_passOver F (a0 + 86) (a0 + 1) h) fun _ h =>
    some ((-3), h)
  ) else (
    zbd (fX10_readAlgebra F (a0 + 86) (a0 + 1) (a0 + 6) h) fun _ h =>
    zgf h (a0 + 86) 0 fun x4 =>
    if x4 = 0 then (
      zbd (fX11_putDraft F a0 a1 h) fun _ h =>
      zgf h (a0 + 6) 0 fun x6 =>
      some (x6, h)
    ) else (
      zgf h (a0 + 86) 1 fun x7 =>
      some (wr ((-100) - x7), h)
    )
  )
set_option maxHeartbeats 4000000 in
set_option maxRecDepth 100000 in
theorem mX11_read (F : Nat) (l : Launch) (g : zG) (B : Nat) (h : HF) (a0 : Nat) (a1 : Int) (ra0 : kt a0 = 14) (ra1 : rng a1) : CTi l g B yX11_read cX11_read 2 (some .int) 6 [.ref (B + a0), .int (ii a1)] h (fX11_read F a0 a1 h) := by
  refine z_enterI (by decide) rfl (Nat.le_of_ble_eq_true rfl) ?_
  intro p e s m args below meth c ls o Q cx hp hl hf hQ
  have hl : lv_has ls 2 [(0, .ref (B + a0)), (1, .int (ii a1))] := hl
  unfold fX11_read at hf
  refine lv_iload_n cx.1 cx.2.1 dX11_read_0 rfl (lv_at hl 1 rfl) ?_
  refine z_ci cx hp (fun o' hx => zrunS (n := 6) (As := [.int (ii a1)]) (rest := []) cx hp (mX11_isDrawer F l g B h a1 ra1 o' hx) sw_X11_isDrawer ml_X11_123 (by decide) rfl hl.1 rfl (Nat.le_of_ble_eq_true rfl) dX11_read_1) hf (fun r1 h H locs rr1 hp hf => ?_)
  refine z_if_ne cx rr1 (tgt := 21) dX11_read_4 (by decide) hf (fun _ hf => ?_) (fun _ hf => ?_)
  · refine lv_aload_n cx.1 cx.2.1 dX11_read_7 rfl (lv_at hl 0 rfl) ?_
    refine z_gets cx hp (T := TX11) 11 7 (a0 + 86) rfl zin_11 (by decide) (by decide) ra0 rfl fl_X11_53 dX11_read_8 ?_
    refine lv_aload_n cx.1 cx.2.1 dX11_read_11 rfl (lv_at hl 0 rfl) ?_
    refine z_gets cx hp (T := TX11) 11 0 (a0 + 1) rfl zin_11 (by decide) (by decide) ra0 rfl fl_X11_14 dX11_read_12 ?_
    refine z_cv cx hp (fun o' hx => zrunV (n := 6) (As := [.ref (B + (a0 + 1))]) (rest := []) cx hp (mX10_passOver F l g B h (a0 + 86) (a0 + 1) (zs_11_7 a0 (kt_lt ra0 (by decide)) ra0) (zs_11_0 a0 (kt_lt ra0 (by decide)) ra0) o' hx) 10 (zs_11_7 a0 (kt_lt ra0 (by decide)) ra0) (by decide) rfl vw_X10_passOver ml_X11_191 (by decide) rfl hl.1 rfl (Nat.le_of_ble_eq_true rfl) dX11_read_15) hf (fun _ h H locs hp hf => ?_)
    refine z_bipush cx (by decide) dX11_read_18 ?_
    rw [hQ]; exact z_iret cx hp (by decide) dX11_read_20 hf
  · refine lv_aload_n cx.1 cx.2.1 dX11_read_21 rfl (lv_at hl 0 rfl) ?_
    refine z_gets cx hp (T := TX11) 11 7 (a0 + 86) rfl zin_11 (by decide) (by decide) ra0 rfl fl_X11_53 dX11_read_22 ?_
    refine lv_aload_n cx.1 cx.2.1 dX11_read_25 rfl (lv_at hl 0 rfl) ?_
    refine z_gets cx hp (T := TX11) 11 0 (a0 + 1) rfl zin_11 (by decide) (by decide) ra0 rfl fl_X11_14 dX11_read_26 ?_
    refine lv_aload_n cx.1 cx.2.1 dX11_read_29 rfl (lv_at hl 0 rfl) ?_
    refine z_gets cx hp (T := TX11) 11 3 (a0 + 6) rfl zin_11 (by decide) (by decide) ra0 rfl fl_X11_28 dX11_read_30 ?_
    refine z_cv cx hp (fun o' hx => zrunV (n := 6) (As := [.ref (B + (a0 + 1)), .ref (B + (a0 + 6))]) (rest := []) cx hp (mX10_readAlgebra F l g B h (a0 + 86) (a0 + 1) (a0 + 6) (zs_11_7 a0 (kt_lt ra0 (by decide)) ra0) (zs_11_0 a0 (kt_lt ra0 (by decide)) ra0) (zs_11_3 a0 (kt_lt ra0 (by decide)) ra0) o' hx) 10 (zs_11_7 a0 (kt_lt ra0 (by decide)) ra0) (by decide) rfl vw_X10_readAlgebra ml_X11_194 (by decide) rfl hl.1 rfl (Nat.le_of_ble_eq_true rfl) dX11_read_33) hf (fun _ h H locs hp hf => ?_)
    refine lv_aload_n cx.1 cx.2.1 dX11_read_36 rfl (lv_at hl 0 rfl) ?_
    refine z_gets cx hp (T := TX11) 11 7 (a0 + 86) rfl zin_11 (by decide) (by decide) ra0 rfl fl_X11_53 dX11_read_37 ?_
    refine z_geti cx hp (T := TX10) 10 0 rfl zin_10 (by decide) (by decide) (zs_11_7 a0 (kt_lt ra0 (by decide)) ra0) rfl fl_X11_198 dX11_read_40 hf (fun x4 rx4 hf => ?_)
    refine z_if_eq cx rx4 (tgt := 57) dX11_read_43 (by decide) hf (fun _ hf => ?_) (fun _ hf => ?_)
    · refine lv_aload_n cx.1 cx.2.1 dX11_read_57 rfl (lv_at hl 0 rfl) ?_
      refine lv_iload_n cx.1 cx.2.1 dX11_read_58 rfl (lv_at hl 1 rfl) ?_
      refine z_cv cx hp (fun o' hx => zrunV (n := 6) (As := [.int (ii a1)]) (rest := []) cx hp (mX11_putDraft F l g B h a0 a1 ra0 ra1 o' hx) 11 ra0 (by decide) rfl vw_X11_putDraft ml_X11_134 (by decide) rfl hl.1 rfl (Nat.le_of_ble_eq_true rfl) dX11_read_59) hf (fun _ h H locs hp hf => ?_)
      refine lv_aload_n cx.1 cx.2.1 dX11_read_62 rfl (lv_at hl 0 rfl) ?_
      refine z_gets cx hp (T := TX11) 11 3 (a0 + 6) rfl zin_11 (by decide) (by decide) ra0 rfl fl_X11_28 dX11_read_63 ?_
      refine z_geti cx hp (T := TX0) 0 0 rfl zin_0 (by decide) (by decide) (zs_11_3 a0 (kt_lt ra0 (by decide)) ra0) rfl fl_X11_172 dX11_read_66 hf (fun x6 rx6 hf => ?_)
      rw [hQ]; exact z_iret cx hp rx6 dX11_read_69 hf
    · refine z_bipush cx (by decide) dX11_read_46 ?_
      refine lv_aload_n cx.1 cx.2.1 dX11_read_48 rfl (lv_at hl 0 rfl) ?_
      refine z_gets cx hp (T := TX11) 11 7 (a0 + 86) rfl zin_11 (by decide) (by decide) ra0 rfl fl_X11_53 dX11_read_49 ?_
      refine z_geti cx hp (T := TX10) 10 1 rfl zin_10 (by decide) (by decide) (zs_11_7 a0 (kt_lt ra0 (by decide)) ra0) rfl fl_X11_201 dX11_read_52 hf (fun x7 rx7 hf => ?_)
      refine z_isub cx dX11_read_55 ?_
      rw [hQ]; exact z_iret cx hp (rng_wr _) dX11_read_56 hf
theorem dX11_holds_0 : decode cX11_holds 0 = .ok (.aload_n 0, 1) := by decide +kernel
theorem dX11_holds_1 : decode cX11_holds 1 = .ok (.iload_n 1, 1) := by decide +kernel
theorem dX11_holds_2 : decode cX11_holds 2 = .ok (.iload_n 2, 1) := by decide +kernel
theorem dX11_holds_3 : decode cX11_holds 3 = .ok (.invokevirtual 227, 3) := by decide +kernel
theorem dX11_holds_6 : decode cX11_holds 6 = .ok (.istore_n 3, 1) := by decide +kernel
theorem dX11_holds_7 : decode cX11_holds 7 = .ok (.iload_n 3, 1) := by decide +kernel
theorem dX11_holds_8 : decode cX11_holds 8 = .ok (.ifCond .eq 7, 3) := by decide +kernel
theorem dX11_holds_11 : decode cX11_holds 11 = .ok (.iload_n 3, 1) := by decide +kernel
theorem dX11_holds_12 : decode cX11_holds 12 = .ok (.goto 22, 3) := by decide +kernel
theorem dX11_holds_15 : decode cX11_holds 15 = .ok (.aload_n 0, 1) := by decide +kernel
theorem dX11_holds_16 : decode cX11_holds 16 = .ok (.getfield 60, 3) := by decide +kernel
theorem dX11_holds_19 : decode cX11_holds 19 = .ok (.aload_n 0, 1) := by decide +kernel
theorem dX11_holds_20 : decode cX11_holds 20 = .ok (.getfield 23, 3) := by decide +kernel
theorem dX11_holds_23 : decode cX11_holds 23 = .ok (.iload_n 1, 1) := by decide +kernel
theorem dX11_holds_24 : decode cX11_holds 24 = .ok (.aaload, 1) := by decide +kernel
theorem dX11_holds_25 : decode cX11_holds 25 = .ok (.aload_n 0, 1) := by decide +kernel
theorem dX11_holds_26 : decode cX11_holds 26 = .ok (.getfield 41, 3) := by decide +kernel
theorem dX11_holds_29 : decode cX11_holds 29 = .ok (.iload_n 2, 1) := by decide +kernel
theorem dX11_holds_30 : decode cX11_holds 30 = .ok (.aaload, 1) := by decide +kernel
theorem dX11_holds_31 : decode cX11_holds 31 = .ok (.invokevirtual 230, 3) := by decide +kernel
theorem dX11_holds_34 : decode cX11_holds 34 = .ok (.ireturn, 1) := by decide +kernel
def fX11_holds (F : Nat) (a0 : Nat) (a1 : Int) (a2 : Int) (h : HF) : RO :=
  zbd (fX11_refuseTrial F a0 a1 a2 h) fun r1 h =>
  zjn (fun (y34_0 : Int) (h : HF) => (
    some (y34_0, h)
  )) fun j34 =>
  if r1 = 0 then (
    zrs (a0 + 5) a1 fun x2 =>
    zrl h (a0 + 77) a2 fun x3 =>
    zbd (fX5_firstBroken F (a0 + 91) x2 x3 h) fun r4 h =>
    j34 r4 h
  ) else (
    j34 r1 h
  )
set_option maxHeartbeats 4000000 in
set_option maxRecDepth 100000 in
theorem mX11_holds (F : Nat) (l : Launch) (g : zG) (B : Nat) (h : HF) (a0 : Nat) (a1 : Int) (a2 : Int) (ra0 : kt a0 = 14) (ra1 : rng a1) (ra2 : rng a2) : CTi l g B yX11_holds cX11_holds 4 (some .int) 5 [.ref (B + a0), .int (ii a1), .int (ii a2)] h (fX11_holds F a0 a1 a2 h) := by
  refine z_enterI (by decide) rfl (Nat.le_of_ble_eq_true rfl) ?_
  intro p e s m args below meth c ls o Q cx hp hl hf hQ
  have hl : lv_has ls 4 [(0, .ref (B + a0)), (1, .int (ii a1)), (2, .int (ii a2))] := hl
  unfold fX11_holds at hf
  refine lv_aload_n cx.1 cx.2.1 dX11_holds_0 rfl (lv_at hl 0 rfl) ?_
  refine lv_iload_n cx.1 cx.2.1 dX11_holds_1 rfl (lv_at hl 1 rfl) ?_
  refine lv_iload_n cx.1 cx.2.1 dX11_holds_2 rfl (lv_at hl 2 rfl) ?_
  refine z_ci cx hp (fun o' hx => zrunV (n := 5) (As := [.int (ii a1), .int (ii a2)]) (rest := []) cx hp (mX11_refuseTrial F l g B h a0 a1 a2 ra0 ra1 ra2 o' hx) 11 ra0 (by decide) rfl vw_X11_refuseTrial ml_X11_227 (by decide) rfl hl.1 rfl (Nat.le_of_ble_eq_true rfl) dX11_holds_3) hf (fun r1 h H locs rr1 hp hf => ?_)
  refine lv_istore_n (lv' := [(3, .int (ii r1)), (0, .ref (B + a0)), (1, .int (ii a1)), (2, .int (ii a2))]) cx.1 cx.2.1 dX11_holds_6 rfl hl (by decide) rfl (fun ls hl => ?_)
  refine lv_iload_n cx.1 cx.2.1 dX11_holds_7 rfl (lv_at hl 0 rfl) ?_
  refine z_jn hf (fun j => ∀ (y34_0 : Int) (h : HF) (H : Heap) (locs : List Loc) (ls : Array Slot), rng y34_0 → Hp g B s h H locs → lv_has ls 4 [] → j y34_0 h = some o → W p l e (rmn 5) s m args below meth c H locs 0 0 Q (F0 m 34 ls [.int (ii y34_0)])) ?_ (fun j34 hj34 hf => ?_)
  · intro y34_0 h H locs ls ry34_0 hp hl hf
    rw [hQ]; exact z_iret cx hp ry34_0 dX11_holds_34 hf
  refine z_if_eq cx rr1 (tgt := 15) dX11_holds_8 (by decide) hf (fun _ hf => ?_) (fun _ hf => ?_)
  · refine lv_aload_n cx.1 cx.2.1 dX11_holds_15 rfl (lv_at hl 1 rfl) ?_
    refine z_gets cx hp (T := TX11) 11 8 (a0 + 91) rfl zin_11 (by decide) (by decide) ra0 rfl fl_X11_60 dX11_holds_16 ?_
    refine lv_aload_n cx.1 cx.2.1 dX11_holds_19 rfl (lv_at hl 1 rfl) ?_
    refine z_gets cx hp (T := TX11) 11 2 (a0 + 5) rfl zin_11 (by decide) (by decide) ra0 rfl fl_X11_23 dX11_holds_20 ?_
    refine lv_iload_n cx.1 cx.2.1 dX11_holds_23 rfl (lv_at hl 2 rfl) ?_
    refine z_aald1 cx hp (zs_11_2 a0 (kt_lt ra0 (by decide)) ra0) ra1 dX11_holds_24 hf (fun x2 rx2 hf => ?_)
    refine lv_aload_n cx.1 cx.2.1 dX11_holds_25 rfl (lv_at hl 1 rfl) ?_
    refine z_gets cx hp (T := TX11) 11 5 (a0 + 77) rfl zin_11 (by decide) (by decide) ra0 rfl fl_X11_41 dX11_holds_26 ?_
    refine lv_iload_n cx.1 cx.2.1 dX11_holds_29 rfl (lv_at hl 3 rfl) ?_
    refine z_aald2 cx hp (zs_11_5 a0 (kt_lt ra0 (by decide)) ra0) ra2 dX11_holds_30 hf (fun x3 rx3 hf => ?_)
    refine z_ci cx hp (fun o' hx => zrunV (n := 5) (As := [.ref (B + x2), .ref (B + x3)]) (rest := []) cx hp (mX5_firstBroken F l g B h (a0 + 91) x2 x3 (zs_11_8 a0 (kt_lt ra0 (by decide)) ra0) rx2 rx3 o' hx) 5 (zs_11_8 a0 (kt_lt ra0 (by decide)) ra0) (by decide) rfl vw_X5_firstBroken ml_X11_230 (by decide) rfl hl.1 rfl (Nat.le_of_ble_eq_true rfl) dX11_holds_31) hf (fun r4 h H locs rr4 hp hf => ?_)
    exact hj34 r4 h _ _ ls rr4 hp (lv_sub hl [] rfl) hf
  · refine lv_iload_n cx.1 cx.2.1 dX11_holds_11 rfl (lv_at hl 0 rfl) ?_
    refine lv_goto (tgt := 34) cx.1 cx.2.1 dX11_holds_12 (by decide) ?_
    exact hj34 r1 h _ _ ls rr1 hp (lv_sub hl [] rfl) hf
theorem dX11_map_0 : decode cX11_map 0 = .ok (.aload_n 0, 1) := by decide +kernel
theorem dX11_map_1 : decode cX11_map 1 = .ok (.iload_n 1, 1) := by decide +kernel
theorem dX11_map_2 : decode cX11_map 2 = .ok (.iload_n 2, 1) := by decide +kernel
theorem dX11_map_3 : decode cX11_map 3 = .ok (.invokevirtual 301, 3) := by decide +kernel
theorem dX11_map_6 : decode cX11_map 6 = .ok (.istore 5, 2) := by decide +kernel
theorem dX11_map_8 : decode cX11_map 8 = .ok (.iload 5, 2) := by decide +kernel
theorem dX11_map_10 : decode cX11_map 10 = .ok (.ifCond .eq 6, 3) := by decide +kernel
theorem dX11_map_13 : decode cX11_map 13 = .ok (.iload 5, 2) := by decide +kernel
theorem dX11_map_15 : decode cX11_map 15 = .ok (.ireturn, 1) := by decide +kernel
theorem dX11_map_16 : decode cX11_map 16 = .ok (.iload_n 3, 1) := by decide +kernel
theorem dX11_map_17 : decode cX11_map 17 = .ok (.ifCond .lt 14, 3) := by decide +kernel
theorem dX11_map_20 : decode cX11_map 20 = .ok (.iload_n 3, 1) := by decide +kernel
theorem dX11_map_21 : decode cX11_map 21 = .ok (.iconst 3, 1) := by decide +kernel
theorem dX11_map_22 : decode cX11_map 22 = .ok (.if_icmp .gt 9, 3) := by decide +kernel
theorem dX11_map_25 : decode cX11_map 25 = .ok (.iload 4, 2) := by decide +kernel
theorem dX11_map_27 : decode cX11_map 27 = .ok (.iconst (-1), 1) := by decide +kernel
theorem dX11_map_28 : decode cX11_map 28 = .ok (.if_icmp .ge 6, 3) := by decide +kernel
theorem dX11_map_34 : decode cX11_map 34 = .ok (.aload_n 0, 1) := by decide +kernel
theorem dX11_map_35 : decode cX11_map 35 = .ok (.getfield 74, 3) := by decide +kernel
theorem dX11_map_38 : decode cX11_map 38 = .ok (.aload_n 0, 1) := by decide +kernel
theorem dX11_map_39 : decode cX11_map 39 = .ok (.getfield 23, 3) := by decide +kernel
theorem dX11_map_42 : decode cX11_map 42 = .ok (.iload_n 1, 1) := by decide +kernel
theorem dX11_map_43 : decode cX11_map 43 = .ok (.aaload, 1) := by decide +kernel
theorem dX11_map_44 : decode cX11_map 44 = .ok (.aload_n 0, 1) := by decide +kernel
theorem dX11_map_45 : decode cX11_map 45 = .ok (.getfield 23, 3) := by decide +kernel
theorem dX11_map_48 : decode cX11_map 48 = .ok (.iload_n 2, 1) := by decide +kernel
theorem dX11_map_49 : decode cX11_map 49 = .ok (.aaload, 1) := by decide +kernel
theorem dX11_map_50 : decode cX11_map 50 = .ok (.iload_n 3, 1) := by decide +kernel
theorem dX11_map_51 : decode cX11_map 51 = .ok (.iload 4, 2) := by decide +kernel
theorem dX11_map_53 : decode cX11_map 53 = .ok (.invokevirtual 304, 3) := by decide +kernel
theorem dX11_map_56 : decode cX11_map 56 = .ok (.istore 6, 2) := by decide +kernel
theorem dX11_map_58 : decode cX11_map 58 = .ok (.iload 4, 2) := by decide +kernel
theorem dX11_map_60 : decode cX11_map 60 = .ok (.iconst (-1), 1) := by decide +kernel
theorem dX11_map_61 : decode cX11_map 61 = .ok (.if_icmp .ne 11, 3) := by decide +kernel
theorem dX11_map_64 : decode cX11_map 64 = .ok (.aload_n 0, 1) := by decide +kernel
theorem dX11_map_65 : decode cX11_map 65 = .ok (.getfield 74, 3) := by decide +kernel
theorem dX11_map_68 : decode cX11_map 68 = .ok (.getfield 308, 3) := by decide +kernel
theorem dX11_map_71 : decode cX11_map 71 = .ok (.ireturn, 1) := by decide +kernel
theorem dX11_map_72 : decode cX11_map 72 = .ok (.iload 6, 2) := by decide +kernel
theorem dX11_map_74 : decode cX11_map 74 = .ok (.ifCond .eq 13, 3) := by decide +kernel
theorem dX11_map_77 : decode cX11_map 77 = .ok (.aload_n 0, 1) := by decide +kernel
theorem dX11_map_78 : decode cX11_map 78 = .ok (.getfield 74, 3) := by decide +kernel
theorem dX11_map_81 : decode cX11_map 81 = .ok (.getfield 309, 3) := by decide +kernel
theorem dX11_map_84 : decode cX11_map 84 = .ok (.goto 5, 3) := by decide +kernel
theorem dX11_map_87 : decode cX11_map 87 = .ok (.bipush (-3), 2) := by decide +kernel
theorem dX11_map_89 : decode cX11_map 89 = .ok (.ireturn, 1) := by decide +kernel
theorem dX11_map_31 : decode cX11_map 31 = .ok (.bipush (-3), 2) := by decide +kernel
theorem dX11_map_33 : decode cX11_map 33 = .ok (.ireturn, 1) := by decide +kernel
def fX11_map (F : Nat) (a0 : Nat) (a1 : Int) (a2 : Int) (a3 : Int) (a4 : Int) (h : HF) : RO :=
  zbd (fX11_refusePair F a0 a1 a2 h) fun r1 h =>
  if r1 = 0 then (
    zjn (fun  (h : HF) => (
      some ((-3), h)
    )) fun j31 =>
    if a3 < 0 then (
      j31  h
    ) else (
      if 3 < a3 then (
        j31  h
      ) else (
        if a4 < (-1) then (
          j31  h
        ) else (
          zrs (a0 + 5) a1 fun x2 =>
          zrs (a0 + 5) a2 fun x3 =>
          zbd (fX7_seek F (a0 + 98) x2 x3 a3 a4 h) fun r4 h =>
          if a4 = (-1) then (
            zgf h (a0 + 98) 0 fun x5 =>
            some (x5, h)
          ) else (
            zjn (fun (y89_0 : Int) (h : HF) => (
              some (y89_0, h)
            )) fun j89 =>
            if r4 = 0 then (
              j89 (-3) h
            ) else (
              zgf h (a0 + 98) 1 fun x6 =>
              j89 x6 h
            )
          )
        )
      )
    )
  ) else (
    some (r1, h)
  )
set_option maxHeartbeats 4000000 in
set_option maxRecDepth 100000 in
theorem mX11_map (F : Nat) (l : Launch) (g : zG) (B : Nat) (h : HF) (a0 : Nat) (a1 : Int) (a2 : Int) (a3 : Int) (a4 : Int) (ra0 : kt a0 = 14) (ra1 : rng a1) (ra2 : rng a2) (ra3 : rng a3) (ra4 : rng a4) : CTi l g B yX11_map cX11_map 7 (some .int) 44 [.ref (B + a0), .int (ii a1), .int (ii a2), .int (ii a3), .int (ii a4)] h (fX11_map F a0 a1 a2 a3 a4 h) := by
  refine z_enterI (by decide) rfl (Nat.le_of_ble_eq_true rfl) ?_
  intro p e s m args below meth c ls o Q cx hp hl hf hQ
  have hl : lv_has ls 7 [(0, .ref (B + a0)), (1, .int (ii a1)), (2, .int (ii a2)), (3, .int (ii a3)), (4, .int (ii a4))] := hl
  unfold fX11_map at hf
  refine lv_aload_n cx.1 cx.2.1 dX11_map_0 rfl (lv_at hl 0 rfl) ?_
  refine lv_iload_n cx.1 cx.2.1 dX11_map_1 rfl (lv_at hl 1 rfl) ?_
  refine lv_iload_n cx.1 cx.2.1 dX11_map_2 rfl (lv_at hl 2 rfl) ?_
  refine z_ci cx hp (fun o' hx => zrunV (n := 44) (As := [.int (ii a1), .int (ii a2)]) (rest := []) cx hp (mX11_refusePair F l g B h a0 a1 a2 ra0 ra1 ra2 o' hx) 11 ra0 (by decide) rfl vw_X11_refusePair ml_X11_301 (by decide) rfl hl.1 rfl (Nat.le_of_ble_eq_true rfl) dX11_map_3) hf (fun r1 h H locs rr1 hp hf => ?_)
  refine lv_istore (lv' := [(5, .int (ii r1)), (0, .ref (B + a0)), (1, .int (ii a1)), (2, .int (ii a2)), (3, .int (ii a3)), (4, .int (ii a4))]) cx.1 cx.2.1 dX11_map_6 hl (by decide) rfl (fun ls hl => ?_)
  refine lv_iload cx.1 cx.2.1 dX11_map_8 (lv_at hl 0 rfl) ?_
  refine z_if_eq cx rr1 (tgt := 16) dX11_map_10 (by decide) hf (fun _ hf => ?_) (fun _ hf => ?_)
  · refine lv_iload_n cx.1 cx.2.1 dX11_map_16 rfl (lv_at hl 4 rfl) ?_
    refine z_jn hf (fun j => ∀  (h : HF) (H : Heap) (locs : List Loc) (ls : Array Slot), Hp g B s h H locs → lv_has ls 7 [] → j  h = some o → W p l e (rmn 44) s m args below meth c H locs 0 0 Q (F0 m 31 ls [])) ?_ (fun j31 hj31 hf => ?_)
    · intro  h H locs ls  hp hl hf
      refine z_bipush cx (by decide) dX11_map_31 ?_
      rw [hQ]; exact z_iret cx hp (by decide) dX11_map_33 hf
    refine z_if_lt cx ra3 (tgt := 31) dX11_map_17 (by decide) hf (fun _ hf => ?_) (fun _ hf => ?_)
    · exact hj31  h _ _ ls  hp (lv_sub hl [] rfl) hf
    · refine lv_iload_n cx.1 cx.2.1 dX11_map_20 rfl (lv_at hl 4 rfl) ?_
      refine z_iconst cx dX11_map_21 ?_
      refine z_icmp_gt cx ra3 (by decide) (tgt := 31) dX11_map_22 (by decide) hf (fun _ hf => ?_) (fun _ hf => ?_)
      · exact hj31  h _ _ ls  hp (lv_sub hl [] rfl) hf
      · refine lv_iload cx.1 cx.2.1 dX11_map_25 (lv_at hl 5 rfl) ?_
        refine z_iconst cx dX11_map_27 ?_
        refine z_icmp_ge cx ra4 (by decide) (tgt := 34) dX11_map_28 (by decide) hf (fun _ hf => ?_) (fun _ hf => ?_)
        · exact hj31  h _ _ ls  hp (lv_sub hl [] rfl) hf
        · refine lv_aload_n cx.1 cx.2.1 dX11_map_34 rfl (lv_at hl 1 rfl) ?_
          refine z_gets cx hp (T := TX11) 11 10 (a0 + 98) rfl zin_11 (by decide) (by decide) ra0 rfl fl_X11_74 dX11_map_35 ?_
          refine lv_aload_n cx.1 cx.2.1 dX11_map_38 rfl (lv_at hl 1 rfl) ?_
          refine z_gets cx hp (T := TX11) 11 2 (a0 + 5) rfl zin_11 (by decide) (by decide) ra0 rfl fl_X11_23 dX11_map_39 ?_
          refine lv_iload_n cx.1 cx.2.1 dX11_map_42 rfl (lv_at hl 2 rfl) ?_
          refine z_aald1 cx hp (zs_11_2 a0 (kt_lt ra0 (by decide)) ra0) ra1 dX11_map_43 hf (fun x2 rx2 hf => ?_)
          refine lv_aload_n cx.1 cx.2.1 dX11_map_44 rfl (lv_at hl 1 rfl) ?_
          refine z_gets cx hp (T := TX11) 11 2 (a0 + 5) rfl zin_11 (by decide) (by decide) ra0 rfl fl_X11_23 dX11_map_45 ?_
          refine lv_iload_n cx.1 cx.2.1 dX11_map_48 rfl (lv_at hl 3 rfl) ?_
          refine z_aald1 cx hp (zs_11_2 a0 (kt_lt ra0 (by decide)) ra0) ra2 dX11_map_49 hf (fun x3 rx3 hf => ?_)
          refine lv_iload_n cx.1 cx.2.1 dX11_map_50 rfl (lv_at hl 4 rfl) ?_
          refine lv_iload cx.1 cx.2.1 dX11_map_51 (lv_at hl 5 rfl) ?_
          refine z_ci cx hp (fun o' hx => zrunV (n := 44) (As := [.ref (B + x2), .ref (B + x3), .int (ii a3), .int (ii a4)]) (rest := []) cx hp (mX7_seek F l g B h (a0 + 98) x2 x3 a3 a4 (zs_11_10 a0 (kt_lt ra0 (by decide)) ra0) rx2 rx3 ra3 ra4 o' hx) 7 (zs_11_10 a0 (kt_lt ra0 (by decide)) ra0) (by decide) rfl vw_X7_seek ml_X11_304 (by decide) rfl hl.1 rfl (Nat.le_of_ble_eq_true rfl) dX11_map_53) hf (fun r4 h H locs rr4 hp hf => ?_)
          refine lv_istore (lv' := [(6, .int (ii r4)), (5, .int (ii r1)), (0, .ref (B + a0)), (1, .int (ii a1)), (2, .int (ii a2)), (3, .int (ii a3)), (4, .int (ii a4))]) cx.1 cx.2.1 dX11_map_56 hl (by decide) rfl (fun ls hl => ?_)
          refine lv_iload cx.1 cx.2.1 dX11_map_58 (lv_at hl 6 rfl) ?_
          refine z_iconst cx dX11_map_60 ?_
          refine z_icmp_ne cx ra4 (by decide) (tgt := 72) dX11_map_61 (by decide) hf (fun _ hf => ?_) (fun _ hf => ?_)
          · refine lv_aload_n cx.1 cx.2.1 dX11_map_64 rfl (lv_at hl 2 rfl) ?_
            refine z_gets cx hp (T := TX11) 11 10 (a0 + 98) rfl zin_11 (by decide) (by decide) ra0 rfl fl_X11_74 dX11_map_65 ?_
            refine z_geti cx hp (T := TX7) 7 0 rfl zin_7 (by decide) (by decide) (zs_11_10 a0 (kt_lt ra0 (by decide)) ra0) rfl fl_X11_308 dX11_map_68 hf (fun x5 rx5 hf => ?_)
            rw [hQ]; exact z_iret cx hp rx5 dX11_map_71 hf
          · refine lv_iload cx.1 cx.2.1 dX11_map_72 (lv_at hl 0 rfl) ?_
            refine z_jn hf (fun j => ∀ (y89_0 : Int) (h : HF) (H : Heap) (locs : List Loc) (ls : Array Slot), rng y89_0 → Hp g B s h H locs → lv_has ls 7 [] → j y89_0 h = some o → W p l e (rmn 44) s m args below meth c H locs 0 0 Q (F0 m 89 ls [.int (ii y89_0)])) ?_ (fun j89 hj89 hf => ?_)
            · intro y89_0 h H locs ls ry89_0 hp hl hf
              rw [hQ]; exact z_iret cx hp ry89_0 dX11_map_89 hf
            refine z_if_eq cx rr4 (tgt := 87) dX11_map_74 (by decide) hf (fun _ hf => ?_) (fun _ hf => ?_)
            · refine z_bipush cx (by decide) dX11_map_87 ?_
              exact hj89 (-3) h _ _ ls (by decide) hp (lv_sub hl [] rfl) hf
            · refine lv_aload_n cx.1 cx.2.1 dX11_map_77 rfl (lv_at hl 2 rfl) ?_
              refine z_gets cx hp (T := TX11) 11 10 (a0 + 98) rfl zin_11 (by decide) (by decide) ra0 rfl fl_X11_74 dX11_map_78 ?_
              refine z_geti cx hp (T := TX7) 7 1 rfl zin_7 (by decide) (by decide) (zs_11_10 a0 (kt_lt ra0 (by decide)) ra0) rfl fl_X11_309 dX11_map_81 hf (fun x6 rx6 hf => ?_)
              refine lv_goto (tgt := 89) cx.1 cx.2.1 dX11_map_84 (by decide) ?_
              exact hj89 x6 h _ _ ls rx6 hp (lv_sub hl [] rfl) hf
  · refine lv_iload cx.1 cx.2.1 dX11_map_13 (lv_at hl 0 rfl) ?_
    rw [hQ]; exact z_iret cx hp rr1 dX11_map_15 hf
theorem dX11_alike_0 : decode cX11_alike 0 = .ok (.aload_n 0, 1) := by decide +kernel
theorem dX11_alike_1 : decode cX11_alike 1 = .ok (.iload_n 1, 1) := by decide +kernel
theorem dX11_alike_2 : decode cX11_alike 2 = .ok (.iload_n 2, 1) := by decide +kernel
theorem dX11_alike_3 : decode cX11_alike 3 = .ok (.invokevirtual 301, 3) := by decide +kernel
theorem dX11_alike_6 : decode cX11_alike 6 = .ok (.istore_n 3, 1) := by decide +kernel
theorem dX11_alike_7 : decode cX11_alike 7 = .ok (.iload_n 3, 1) := by decide +kernel
theorem dX11_alike_8 : decode cX11_alike 8 = .ok (.ifCond .eq 5, 3) := by decide +kernel
theorem dX11_alike_11 : decode cX11_alike 11 = .ok (.iload_n 3, 1) := by decide +kernel
theorem dX11_alike_12 : decode cX11_alike 12 = .ok (.ireturn, 1) := by decide +kernel
theorem dX11_alike_13 : decode cX11_alike 13 = .ok (.aload_n 0, 1) := by decide +kernel
theorem dX11_alike_14 : decode cX11_alike 14 = .ok (.getfield 23, 3) := by decide +kernel
theorem dX11_alike_17 : decode cX11_alike 17 = .ok (.iload_n 1, 1) := by decide +kernel
theorem dX11_alike_18 : decode cX11_alike 18 = .ok (.aaload, 1) := by decide +kernel
theorem dX11_alike_19 : decode cX11_alike 19 = .ok (.astore 4, 2) := by decide +kernel
theorem dX11_alike_21 : decode cX11_alike 21 = .ok (.aload_n 0, 1) := by decide +kernel
theorem dX11_alike_22 : decode cX11_alike 22 = .ok (.getfield 23, 3) := by decide +kernel
theorem dX11_alike_25 : decode cX11_alike 25 = .ok (.iload_n 2, 1) := by decide +kernel
theorem dX11_alike_26 : decode cX11_alike 26 = .ok (.aaload, 1) := by decide +kernel
theorem dX11_alike_27 : decode cX11_alike 27 = .ok (.astore 5, 2) := by decide +kernel
theorem dX11_alike_29 : decode cX11_alike 29 = .ok (.aload 4, 2) := by decide +kernel
theorem dX11_alike_31 : decode cX11_alike 31 = .ok (.getfield 172, 3) := by decide +kernel
theorem dX11_alike_34 : decode cX11_alike 34 = .ok (.aload 5, 2) := by decide +kernel
theorem dX11_alike_36 : decode cX11_alike 36 = .ok (.getfield 172, 3) := by decide +kernel
theorem dX11_alike_39 : decode cX11_alike 39 = .ok (.if_icmp .eq 5, 3) := by decide +kernel
theorem dX11_alike_42 : decode cX11_alike 42 = .ok (.iconst 0, 1) := by decide +kernel
theorem dX11_alike_43 : decode cX11_alike 43 = .ok (.ireturn, 1) := by decide +kernel
theorem dX11_alike_44 : decode cX11_alike 44 = .ok (.aload 4, 2) := by decide +kernel
theorem dX11_alike_46 : decode cX11_alike 46 = .ok (.aload 5, 2) := by decide +kernel
theorem dX11_alike_48 : decode cX11_alike 48 = .ok (.invokevirtual 312, 3) := by decide +kernel
theorem dX11_alike_51 : decode cX11_alike 51 = .ok (.ifCond .eq 5, 3) := by decide +kernel
theorem dX11_alike_54 : decode cX11_alike 54 = .ok (.iconst 2, 1) := by decide +kernel
theorem dX11_alike_55 : decode cX11_alike 55 = .ok (.ireturn, 1) := by decide +kernel
theorem dX11_alike_56 : decode cX11_alike 56 = .ok (.aload_n 0, 1) := by decide +kernel
theorem dX11_alike_57 : decode cX11_alike 57 = .ok (.getfield 74, 3) := by decide +kernel
theorem dX11_alike_60 : decode cX11_alike 60 = .ok (.aload 4, 2) := by decide +kernel
theorem dX11_alike_62 : decode cX11_alike 62 = .ok (.aload 5, 2) := by decide +kernel
theorem dX11_alike_64 : decode cX11_alike 64 = .ok (.iconst 3, 1) := by decide +kernel
theorem dX11_alike_65 : decode cX11_alike 65 = .ok (.iconst 0, 1) := by decide +kernel
theorem dX11_alike_66 : decode cX11_alike 66 = .ok (.invokevirtual 304, 3) := by decide +kernel
theorem dX11_alike_69 : decode cX11_alike 69 = .ok (.ifCond .eq 7, 3) := by decide +kernel
theorem dX11_alike_72 : decode cX11_alike 72 = .ok (.iconst 1, 1) := by decide +kernel
theorem dX11_alike_73 : decode cX11_alike 73 = .ok (.goto 4, 3) := by decide +kernel
theorem dX11_alike_76 : decode cX11_alike 76 = .ok (.iconst 0, 1) := by decide +kernel
theorem dX11_alike_77 : decode cX11_alike 77 = .ok (.ireturn, 1) := by decide +kernel
def fX11_alike (F : Nat) (a0 : Nat) (a1 : Int) (a2 : Int) (h : HF) : RO :=
  zbd (fX11_refusePair F a0 a1 a2 h) fun r1 h =>
  if r1 = 0 then (
    zrs (a0 + 5) a1 fun x2 =>
    zrs (a0 + 5) a2 fun x3 =>
    zgf h x2 0 fun x4 =>
    zgf h x3 0 fun x5 =>
    if x4 = x5 then (
      zbd (fX0_hasLineOf F x2 x3 h) fun r6 h =>
      if r6 = 0 then (
        zbd (fX7_seek F (a0 + 98) x2 x3 3 0 h) fun r7 h =>
        zjn (fun (y77_0 : Int) (h : HF) => (
          some (y77_0, h)
        )) fun j77 =>
        if r7 = 0 then (
          j77 0 h
        ) else (
          j77 1 h
        )
      ) else (
        some (2, h)
      )
    ) else (
      some (0, h)
    )
  ) else (
    some (r1, h)
  )
set_option maxHeartbeats 4000000 in
set_option maxRecDepth 100000 in
theorem mX11_alike (F : Nat) (l : Launch) (g : zG) (B : Nat) (h : HF) (a0 : Nat) (a1 : Int) (a2 : Int) (ra0 : kt a0 = 14) (ra1 : rng a1) (ra2 : rng a2) : CTi l g B yX11_alike cX11_alike 6 (some .int) 44 [.ref (B + a0), .int (ii a1), .int (ii a2)] h (fX11_alike F a0 a1 a2 h) := by
  refine z_enterI (by decide) rfl (Nat.le_of_ble_eq_true rfl) ?_
  intro p e s m args below meth c ls o Q cx hp hl hf hQ
  have hl : lv_has ls 6 [(0, .ref (B + a0)), (1, .int (ii a1)), (2, .int (ii a2))] := hl
  unfold fX11_alike at hf
  refine lv_aload_n cx.1 cx.2.1 dX11_alike_0 rfl (lv_at hl 0 rfl) ?_
  refine lv_iload_n cx.1 cx.2.1 dX11_alike_1 rfl (lv_at hl 1 rfl) ?_
  refine lv_iload_n cx.1 cx.2.1 dX11_alike_2 rfl (lv_at hl 2 rfl) ?_
  refine z_ci cx hp (fun o' hx => zrunV (n := 44) (As := [.int (ii a1), .int (ii a2)]) (rest := []) cx hp (mX11_refusePair F l g B h a0 a1 a2 ra0 ra1 ra2 o' hx) 11 ra0 (by decide) rfl vw_X11_refusePair ml_X11_301 (by decide) rfl hl.1 rfl (Nat.le_of_ble_eq_true rfl) dX11_alike_3) hf (fun r1 h H locs rr1 hp hf => ?_)
  refine lv_istore_n (lv' := [(3, .int (ii r1)), (0, .ref (B + a0)), (1, .int (ii a1)), (2, .int (ii a2))]) cx.1 cx.2.1 dX11_alike_6 rfl hl (by decide) rfl (fun ls hl => ?_)
  refine lv_iload_n cx.1 cx.2.1 dX11_alike_7 rfl (lv_at hl 0 rfl) ?_
  refine z_if_eq cx rr1 (tgt := 13) dX11_alike_8 (by decide) hf (fun _ hf => ?_) (fun _ hf => ?_)
  · refine lv_aload_n cx.1 cx.2.1 dX11_alike_13 rfl (lv_at hl 1 rfl) ?_
    refine z_gets cx hp (T := TX11) 11 2 (a0 + 5) rfl zin_11 (by decide) (by decide) ra0 rfl fl_X11_23 dX11_alike_14 ?_
    refine lv_iload_n cx.1 cx.2.1 dX11_alike_17 rfl (lv_at hl 2 rfl) ?_
    refine z_aald1 cx hp (zs_11_2 a0 (kt_lt ra0 (by decide)) ra0) ra1 dX11_alike_18 hf (fun x2 rx2 hf => ?_)
    refine lv_astore (lv' := [(4, .ref (B + x2)), (3, .int (ii r1)), (0, .ref (B + a0)), (1, .int (ii a1)), (2, .int (ii a2))]) cx.1 cx.2.1 dX11_alike_19 hl (by decide) rfl (fun ls hl => ?_)
    refine lv_aload_n cx.1 cx.2.1 dX11_alike_21 rfl (lv_at hl 2 rfl) ?_
    refine z_gets cx hp (T := TX11) 11 2 (a0 + 5) rfl zin_11 (by decide) (by decide) ra0 rfl fl_X11_23 dX11_alike_22 ?_
    refine lv_iload_n cx.1 cx.2.1 dX11_alike_25 rfl (lv_at hl 4 rfl) ?_
    refine z_aald1 cx hp (zs_11_2 a0 (kt_lt ra0 (by decide)) ra0) ra2 dX11_alike_26 hf (fun x3 rx3 hf => ?_)
    refine lv_astore (lv' := [(5, .ref (B + x3)), (4, .ref (B + x2)), (3, .int (ii r1)), (0, .ref (B + a0)), (1, .int (ii a1)), (2, .int (ii a2))]) cx.1 cx.2.1 dX11_alike_27 hl (by decide) rfl (fun ls hl => ?_)
    refine lv_aload cx.1 cx.2.1 dX11_alike_29 (lv_at hl 1 rfl) ?_
    refine z_geti cx hp (T := TX0) 0 0 rfl zin_0 (by decide) (by decide) rx2 rfl fl_X11_172 dX11_alike_31 hf (fun x4 rx4 hf => ?_)
    refine lv_aload cx.1 cx.2.1 dX11_alike_34 (lv_at hl 0 rfl) ?_
    refine z_geti cx hp (T := TX0) 0 0 rfl zin_0 (by decide) (by decide) rx3 rfl fl_X11_172 dX11_alike_36 hf (fun x5 rx5 hf => ?_)
    refine z_icmp_eq cx rx4 rx5 (tgt := 44) dX11_alike_39 (by decide) hf (fun _ hf => ?_) (fun _ hf => ?_)
    · refine lv_aload cx.1 cx.2.1 dX11_alike_44 (lv_at hl 1 rfl) ?_
      refine lv_aload cx.1 cx.2.1 dX11_alike_46 (lv_at hl 0 rfl) ?_
      refine z_ci cx hp (fun o' hx => zrunV (n := 44) (As := [.ref (B + x3)]) (rest := []) cx hp (mX0_hasLineOf F l g B h x2 x3 rx2 rx3 o' hx) 0 rx2 (by decide) rfl vw_X0_hasLineOf ml_X11_312 (by decide) rfl hl.1 rfl (Nat.le_of_ble_eq_true rfl) dX11_alike_48) hf (fun r6 h H locs rr6 hp hf => ?_)
      refine z_if_eq cx rr6 (tgt := 56) dX11_alike_51 (by decide) hf (fun _ hf => ?_) (fun _ hf => ?_)
      · refine lv_aload_n cx.1 cx.2.1 dX11_alike_56 rfl (lv_at hl 3 rfl) ?_
        refine z_gets cx hp (T := TX11) 11 10 (a0 + 98) rfl zin_11 (by decide) (by decide) ra0 rfl fl_X11_74 dX11_alike_57 ?_
        refine lv_aload cx.1 cx.2.1 dX11_alike_60 (lv_at hl 1 rfl) ?_
        refine lv_aload cx.1 cx.2.1 dX11_alike_62 (lv_at hl 0 rfl) ?_
        refine z_iconst cx dX11_alike_64 ?_
        refine z_iconst cx dX11_alike_65 ?_
        refine z_ci cx hp (fun o' hx => zrunV (n := 44) (As := [.ref (B + x2), .ref (B + x3), .int (ii 3), .int (ii 0)]) (rest := []) cx hp (mX7_seek F l g B h (a0 + 98) x2 x3 3 0 (zs_11_10 a0 (kt_lt ra0 (by decide)) ra0) rx2 rx3 (by decide) (by decide) o' hx) 7 (zs_11_10 a0 (kt_lt ra0 (by decide)) ra0) (by decide) rfl vw_X7_seek ml_X11_304 (by decide) rfl hl.1 rfl (Nat.le_of_ble_eq_true rfl) dX11_alike_66) hf (fun r7 h H locs rr7 hp hf => ?_)
        refine z_jn hf (fun j => ∀ (y77_0 : Int) (h : HF) (H : Heap) (locs : List Loc) (ls : Array Slot), rng y77_0 → Hp g B s h H locs → lv_has ls 6 [] → j y77_0 h = some o → W p l e (rmn 44) s m args below meth c H locs 0 0 Q (F0 m 77 ls [.int (ii y77_0)])) ?_ (fun j77 hj77 hf => ?_)
        · intro y77_0 h H locs ls ry77_0 hp hl hf
          rw [hQ]; exact z_iret cx hp ry77_0 dX11_alike_77 hf
        refine z_if_eq cx rr7 (tgt := 76) dX11_alike_69 (by decide) hf (fun _ hf => ?_) (fun _ hf => ?_)
        · refine z_iconst cx dX11_alike_76 ?_
          exact hj77 0 h _ _ ls (by decide) hp (lv_sub hl [] rfl) hf
        · refine z_iconst cx dX11_alike_72 ?_
          refine lv_goto (tgt := 77) cx.1 cx.2.1 dX11_alike_73 (by decide) ?_
          exact hj77 1 h _ _ ls (by decide) hp (lv_sub hl [] rfl) hf
      · refine z_iconst cx dX11_alike_54 ?_
        rw [hQ]; exact z_iret cx hp (by decide) dX11_alike_55 hf
    · refine z_iconst cx dX11_alike_42 ?_
      rw [hQ]; exact z_iret cx hp (by decide) dX11_alike_43 hf
  · refine lv_iload_n cx.1 cx.2.1 dX11_alike_11 rfl (lv_at hl 0 rfl) ?_
    rw [hQ]; exact z_iret cx hp rr1 dX11_alike_12 hf
theorem dX11_models_0 : decode cX11_models 0 = .ok (.aload_n 0, 1) := by decide +kernel
theorem dX11_models_1 : decode cX11_models 1 = .ok (.iload_n 1, 1) := by decide +kernel
theorem dX11_models_2 : decode cX11_models 2 = .ok (.iload_n 2, 1) := by decide +kernel
theorem dX11_models_3 : decode cX11_models 3 = .ok (.iload_n 3, 1) := by decide +kernel
theorem dX11_models_4 : decode cX11_models 4 = .ok (.invokevirtual 339, 3) := by decide +kernel
theorem dX11_models_7 : decode cX11_models 7 = .ok (.istore 5, 2) := by decide +kernel
theorem dX11_models_9 : decode cX11_models 9 = .ok (.iload 5, 2) := by decide +kernel
theorem dX11_models_11 : decode cX11_models 11 = .ok (.ifCond .eq 6, 3) := by decide +kernel
theorem dX11_models_14 : decode cX11_models 14 = .ok (.iload 5, 2) := by decide +kernel
theorem dX11_models_16 : decode cX11_models 16 = .ok (.ireturn, 1) := by decide +kernel
theorem dX11_models_17 : decode cX11_models 17 = .ok (.aload_n 0, 1) := by decide +kernel
theorem dX11_models_18 : decode cX11_models 18 = .ok (.getfield 28, 3) := by decide +kernel
theorem dX11_models_21 : decode cX11_models 21 = .ok (.iload_n 1, 1) := by decide +kernel
theorem dX11_models_22 : decode cX11_models 22 = .ok (.iload_n 2, 1) := by decide +kernel
theorem dX11_models_23 : decode cX11_models 23 = .ok (.invokevirtual 130, 3) := by decide +kernel
theorem dX11_models_26 : decode cX11_models 26 = .ok (.aload_n 0, 1) := by decide +kernel
theorem dX11_models_27 : decode cX11_models 27 = .ok (.getfield 97, 3) := by decide +kernel
theorem dX11_models_30 : decode cX11_models 30 = .ok (.aload_n 0, 1) := by decide +kernel
theorem dX11_models_31 : decode cX11_models 31 = .ok (.getfield 28, 3) := by decide +kernel
theorem dX11_models_34 : decode cX11_models 34 = .ok (.aload_n 0, 1) := by decide +kernel
theorem dX11_models_35 : decode cX11_models 35 = .ok (.getfield 41, 3) := by decide +kernel
theorem dX11_models_38 : decode cX11_models 38 = .ok (.iload_n 3, 1) := by decide +kernel
theorem dX11_models_39 : decode cX11_models 39 = .ok (.aaload, 1) := by decide +kernel
theorem dX11_models_40 : decode cX11_models 40 = .ok (.iconst (-1), 1) := by decide +kernel
theorem dX11_models_41 : decode cX11_models 41 = .ok (.invokevirtual 342, 3) := by decide +kernel
theorem dX11_models_44 : decode cX11_models 44 = .ok (.pop, 1) := by decide +kernel
theorem dX11_models_45 : decode cX11_models 45 = .ok (.iload 4, 2) := by decide +kernel
theorem dX11_models_47 : decode cX11_models 47 = .ok (.ifCond .eq 13, 3) := by decide +kernel
theorem dX11_models_50 : decode cX11_models 50 = .ok (.aload_n 0, 1) := by decide +kernel
theorem dX11_models_51 : decode cX11_models 51 = .ok (.getfield 97, 3) := by decide +kernel
theorem dX11_models_54 : decode cX11_models 54 = .ok (.getfield 345, 3) := by decide +kernel
theorem dX11_models_57 : decode cX11_models 57 = .ok (.goto 10, 3) := by decide +kernel
theorem dX11_models_60 : decode cX11_models 60 = .ok (.aload_n 0, 1) := by decide +kernel
theorem dX11_models_61 : decode cX11_models 61 = .ok (.getfield 97, 3) := by decide +kernel
theorem dX11_models_64 : decode cX11_models 64 = .ok (.getfield 348, 3) := by decide +kernel
theorem dX11_models_67 : decode cX11_models 67 = .ok (.ireturn, 1) := by decide +kernel
def fX11_models (F : Nat) (a0 : Nat) (a1 : Int) (a2 : Int) (a3 : Int) (a4 : Int) (h : HF) : RO :=
  zbd (fX11_refuseModels F a0 a1 a2 a3 h) fun r1 h =>
  if r1 = 0 then (
    zbd (fX0_shape F (a0 + 6) a1 a2 h) fun _ h =>
    zrl h (a0 + 77) a3 fun x3 =>
    zbd (fX8_seek F (a0 + 114) (a0 + 6) x3 (-1) h) fun r4 h =>
    zjn (fun (y67_0 : Int) (h : HF) => (
      some (y67_0, h)
    )) fun j67 =>
    if a4 = 0 then (
      zgf h (a0 + 114) 1 fun x5 =>
      j67 x5 h
    ) else (
      zgf h (a0 + 114) 0 fun x6 =>
      j67 x6 h
    )
  ) else (
    some (r1, h)
  )
set_option maxHeartbeats 4000000 in
set_option maxRecDepth 100000 in
theorem mX11_models (F : Nat) (l : Launch) (g : zG) (B : Nat) (h : HF) (a0 : Nat) (a1 : Int) (a2 : Int) (a3 : Int) (a4 : Int) (ra0 : kt a0 = 14) (ra1 : rng a1) (ra2 : rng a2) (ra3 : rng a3) (ra4 : rng a4) : CTi l g B yX11_models cX11_models 6 (some .int) 6 [.ref (B + a0), .int (ii a1), .int (ii a2), .int (ii a3), .int (ii a4)] h (fX11_models F a0 a1 a2 a3 a4 h) := by
  refine z_enterI (by decide) rfl (Nat.le_of_ble_eq_true rfl) ?_
  intro p e s m args below meth c ls o Q cx hp hl hf hQ
  have hl : lv_has ls 6 [(0, .ref (B + a0)), (1, .int (ii a1)), (2, .int (ii a2)), (3, .int (ii a3)), (4, .int (ii a4))] := hl
  unfold fX11_models at hf
  refine lv_aload_n cx.1 cx.2.1 dX11_models_0 rfl (lv_at hl 0 rfl) ?_
  refine lv_iload_n cx.1 cx.2.1 dX11_models_1 rfl (lv_at hl 1 rfl) ?_
  refine lv_iload_n cx.1 cx.2.1 dX11_models_2 rfl (lv_at hl 2 rfl) ?_
  refine lv_iload_n cx.1 cx.2.1 dX11_models_3 rfl (lv_at hl 3 rfl) ?_
  refine z_ci cx hp (fun o' hx => zrunV (n := 6) (As := [.int (ii a1), .int (ii a2), .int (ii a3)]) (rest := []) cx hp (mX11_refuseModels F l g B h a0 a1 a2 a3 ra0 ra1 ra2 ra3 o' hx) 11 ra0 (by decide) rfl vw_X11_refuseModels ml_X11_339 (by decide) rfl hl.1 rfl (Nat.le_of_ble_eq_true rfl) dX11_models_4) hf (fun r1 h H locs rr1 hp hf => ?_)
  refine lv_istore (lv' := [(5, .int (ii r1)), (0, .ref (B + a0)), (1, .int (ii a1)), (2, .int (ii a2)), (3, .int (ii a3)), (4, .int (ii a4))]) cx.1 cx.2.1 dX11_models_7 hl (by decide) rfl (fun ls hl => ?_)
  refine lv_iload cx.1 cx.2.1 dX11_models_9 (lv_at hl 0 rfl) ?_
  refine z_if_eq cx rr1 (tgt := 17) dX11_models_11 (by decide) hf (fun _ hf => ?_) (fun _ hf => ?_)
  · refine lv_aload_n cx.1 cx.2.1 dX11_models_17 rfl (lv_at hl 1 rfl) ?_
    refine z_gets cx hp (T := TX11) 11 3 (a0 + 6) rfl zin_11 (by decide) (by decide) ra0 rfl fl_X11_28 dX11_models_18 ?_
    refine lv_iload_n cx.1 cx.2.1 dX11_models_21 rfl (lv_at hl 2 rfl) ?_
    refine lv_iload_n cx.1 cx.2.1 dX11_models_22 rfl (lv_at hl 3 rfl) ?_
    refine z_cv cx hp (fun o' hx => zrunV (n := 6) (As := [.int (ii a1), .int (ii a2)]) (rest := []) cx hp (mX0_shape F l g B h (a0 + 6) a1 a2 (zs_11_3 a0 (kt_lt ra0 (by decide)) ra0) ra1 ra2 o' hx) 0 (zs_11_3 a0 (kt_lt ra0 (by decide)) ra0) (by decide) rfl vw_X0_shape ml_X11_130 (by decide) rfl hl.1 rfl (Nat.le_of_ble_eq_true rfl) dX11_models_23) hf (fun _ h H locs hp hf => ?_)
    refine lv_aload_n cx.1 cx.2.1 dX11_models_26 rfl (lv_at hl 1 rfl) ?_
    refine z_gets cx hp (T := TX11) 11 13 (a0 + 114) rfl zin_11 (by decide) (by decide) ra0 rfl fl_X11_97 dX11_models_27 ?_
    refine lv_aload_n cx.1 cx.2.1 dX11_models_30 rfl (lv_at hl 1 rfl) ?_
    refine z_gets cx hp (T := TX11) 11 3 (a0 + 6) rfl zin_11 (by decide) (by decide) ra0 rfl fl_X11_28 dX11_models_31 ?_
    refine lv_aload_n cx.1 cx.2.1 dX11_models_34 rfl (lv_at hl 1 rfl) ?_
    refine z_gets cx hp (T := TX11) 11 5 (a0 + 77) rfl zin_11 (by decide) (by decide) ra0 rfl fl_X11_41 dX11_models_35 ?_
    refine lv_iload_n cx.1 cx.2.1 dX11_models_38 rfl (lv_at hl 4 rfl) ?_
    refine z_aald2 cx hp (zs_11_5 a0 (kt_lt ra0 (by decide)) ra0) ra3 dX11_models_39 hf (fun x3 rx3 hf => ?_)
    refine z_iconst cx dX11_models_40 ?_
    refine z_ci cx hp (fun o' hx => zrunV (n := 6) (As := [.ref (B + (a0 + 6)), .ref (B + x3), .int (ii (-1))]) (rest := []) cx hp (mX8_seek F l g B h (a0 + 114) (a0 + 6) x3 (-1) (zs_11_13 a0 (kt_lt ra0 (by decide)) ra0) (zs_11_3 a0 (kt_lt ra0 (by decide)) ra0) rx3 (by decide) o' hx) 8 (zs_11_13 a0 (kt_lt ra0 (by decide)) ra0) (by decide) rfl vw_X8_seek ml_X11_342 (by decide) rfl hl.1 rfl (Nat.le_of_ble_eq_true rfl) dX11_models_41) hf (fun r4 h H locs rr4 hp hf => ?_)
    refine lv_pop cx.1 cx.2.1 dX11_models_44 rfl ?_
    refine lv_iload cx.1 cx.2.1 dX11_models_45 (lv_at hl 5 rfl) ?_
    refine z_jn hf (fun j => ∀ (y67_0 : Int) (h : HF) (H : Heap) (locs : List Loc) (ls : Array Slot), rng y67_0 → Hp g B s h H locs → lv_has ls 6 [] → j y67_0 h = some o → W p l e (rmn 6) s m args below meth c H locs 0 0 Q (F0 m 67 ls [.int (ii y67_0)])) ?_ (fun j67 hj67 hf => ?_)
    · intro y67_0 h H locs ls ry67_0 hp hl hf
      rw [hQ]; exact z_iret cx hp ry67_0 dX11_models_67 hf
    refine z_if_eq cx ra4 (tgt := 60) dX11_models_47 (by decide) hf (fun _ hf => ?_) (fun _ hf => ?_)
    · refine lv_aload_n cx.1 cx.2.1 dX11_models_60 rfl (lv_at hl 1 rfl) ?_
      refine z_gets cx hp (T := TX11) 11 13 (a0 + 114) rfl zin_11 (by decide) (by decide) ra0 rfl fl_X11_97 dX11_models_61 ?_
      refine z_geti cx hp (T := TX8) 8 1 rfl zin_8 (by decide) (by decide) (zs_11_13 a0 (kt_lt ra0 (by decide)) ra0) rfl fl_X11_348 dX11_models_64 hf (fun x5 rx5 hf => ?_)
      exact hj67 x5 h _ _ ls rx5 hp (lv_sub hl [] rfl) hf
    · refine lv_aload_n cx.1 cx.2.1 dX11_models_50 rfl (lv_at hl 1 rfl) ?_
      refine z_gets cx hp (T := TX11) 11 13 (a0 + 114) rfl zin_11 (by decide) (by decide) ra0 rfl fl_X11_97 dX11_models_51 ?_
      refine z_geti cx hp (T := TX8) 8 0 rfl zin_8 (by decide) (by decide) (zs_11_13 a0 (kt_lt ra0 (by decide)) ra0) rfl fl_X11_345 dX11_models_54 hf (fun x6 rx6 hf => ?_)
      refine lv_goto (tgt := 67) cx.1 cx.2.1 dX11_models_57 (by decide) ?_
      exact hj67 x6 h _ _ ls rx6 hp (lv_sub hl [] rfl) hf
  · refine lv_iload cx.1 cx.2.1 dX11_models_14 (lv_at hl 0 rfl) ?_
    rw [hQ]; exact z_iret cx hp rr1 dX11_models_16 hf
theorem dX11_model_0 : decode cX11_model 0 = .ok (.iload 5, 2) := by decide +kernel
theorem dX11_model_2 : decode cX11_model 2 = .ok (.invokestatic 123, 3) := by decide +kernel
theorem dX11_model_5 : decode cX11_model 5 = .ok (.ifCond .ne 6, 3) := by decide +kernel
theorem dX11_model_8 : decode cX11_model 8 = .ok (.bipush (-3), 2) := by decide +kernel
theorem dX11_model_10 : decode cX11_model 10 = .ok (.ireturn, 1) := by decide +kernel
theorem dX11_model_11 : decode cX11_model 11 = .ok (.aload_n 0, 1) := by decide +kernel
theorem dX11_model_12 : decode cX11_model 12 = .ok (.iload_n 1, 1) := by decide +kernel
theorem dX11_model_13 : decode cX11_model 13 = .ok (.iload_n 2, 1) := by decide +kernel
theorem dX11_model_14 : decode cX11_model 14 = .ok (.iload_n 3, 1) := by decide +kernel
theorem dX11_model_15 : decode cX11_model 15 = .ok (.invokevirtual 339, 3) := by decide +kernel
theorem dX11_model_18 : decode cX11_model 18 = .ok (.istore 6, 2) := by decide +kernel
theorem dX11_model_20 : decode cX11_model 20 = .ok (.iload 6, 2) := by decide +kernel
theorem dX11_model_22 : decode cX11_model 22 = .ok (.ifCond .eq 6, 3) := by decide +kernel
theorem dX11_model_25 : decode cX11_model 25 = .ok (.iload 6, 2) := by decide +kernel
theorem dX11_model_27 : decode cX11_model 27 = .ok (.ireturn, 1) := by decide +kernel
theorem dX11_model_28 : decode cX11_model 28 = .ok (.iload 4, 2) := by decide +kernel
theorem dX11_model_30 : decode cX11_model 30 = .ok (.ifCond .ge 6, 3) := by decide +kernel
theorem dX11_model_33 : decode cX11_model 33 = .ok (.bipush (-3), 2) := by decide +kernel
theorem dX11_model_35 : decode cX11_model 35 = .ok (.ireturn, 1) := by decide +kernel
theorem dX11_model_36 : decode cX11_model 36 = .ok (.aload_n 0, 1) := by decide +kernel
theorem dX11_model_37 : decode cX11_model 37 = .ok (.getfield 28, 3) := by decide +kernel
theorem dX11_model_40 : decode cX11_model 40 = .ok (.iload_n 1, 1) := by decide +kernel
theorem dX11_model_41 : decode cX11_model 41 = .ok (.iload_n 2, 1) := by decide +kernel
theorem dX11_model_42 : decode cX11_model 42 = .ok (.invokevirtual 130, 3) := by decide +kernel
theorem dX11_model_45 : decode cX11_model 45 = .ok (.aload_n 0, 1) := by decide +kernel
theorem dX11_model_46 : decode cX11_model 46 = .ok (.getfield 97, 3) := by decide +kernel
theorem dX11_model_49 : decode cX11_model 49 = .ok (.aload_n 0, 1) := by decide +kernel
theorem dX11_model_50 : decode cX11_model 50 = .ok (.getfield 28, 3) := by decide +kernel
theorem dX11_model_53 : decode cX11_model 53 = .ok (.aload_n 0, 1) := by decide +kernel
theorem dX11_model_54 : decode cX11_model 54 = .ok (.getfield 41, 3) := by decide +kernel
theorem dX11_model_57 : decode cX11_model 57 = .ok (.iload_n 3, 1) := by decide +kernel
theorem dX11_model_58 : decode cX11_model 58 = .ok (.aaload, 1) := by decide +kernel
theorem dX11_model_59 : decode cX11_model 59 = .ok (.iload 4, 2) := by decide +kernel
theorem dX11_model_61 : decode cX11_model 61 = .ok (.invokevirtual 342, 3) := by decide +kernel
theorem dX11_model_64 : decode cX11_model 64 = .ok (.ifCond .ne 6, 3) := by decide +kernel
theorem dX11_model_67 : decode cX11_model 67 = .ok (.bipush (-3), 2) := by decide +kernel
theorem dX11_model_69 : decode cX11_model 69 = .ok (.ireturn, 1) := by decide +kernel
theorem dX11_model_70 : decode cX11_model 70 = .ok (.aload_n 0, 1) := by decide +kernel
theorem dX11_model_71 : decode cX11_model 71 = .ok (.iload 5, 2) := by decide +kernel
theorem dX11_model_73 : decode cX11_model 73 = .ok (.invokevirtual 134, 3) := by decide +kernel
theorem dX11_model_76 : decode cX11_model 76 = .ok (.aload_n 0, 1) := by decide +kernel
theorem dX11_model_77 : decode cX11_model 77 = .ok (.getfield 81, 3) := by decide +kernel
theorem dX11_model_80 : decode cX11_model 80 = .ok (.getfield 325, 3) := by decide +kernel
theorem dX11_model_83 : decode cX11_model 83 = .ok (.ireturn, 1) := by decide +kernel
def fX11_model (F : Nat) (a0 : Nat) (a1 : Int) (a2 : Int) (a3 : Int) (a4 : Int) (a5 : Int) (h : HF) : RO :=
  zbd (fX11_isDrawer F a5 h) fun r1 h =>
  if r1 = 0 then (
    some ((-3), h)
  ) else (
    zbd (fX11_refuseModels F a0 a1 a2 a3 h) fun r2 h =>
    if r2 = 0 then (
      if a4 < 0 then (
        some ((-3), h)
      ) else (
        zbd (fX0_shape F (a0 + 6) a1 a2 h) fun _ h =>
        zrl h (a0 + 77) a3 fun x4 =>
        zbd (fX8_seek F (a0 + 114) (a0 + 6) x4 a4 h) fun r5 h =>
        if r5 = 0 then (
          some ((-3), h)
        ) else (
          zbd (fX11_putDraft F a0 a5 h) fun _ h =>
          zgf h (a0 + 105) 2 fun x7 =>
          some (x7, h)
        )
      )
    ) else (
      some (r2, h)
    )
  )
set_option maxHeartbeats 4000000 in
set_option maxRecDepth 100000 in
theorem mX11_model (F : Nat) (l : Launch) (g : zG) (B : Nat) (h : HF) (a0 : Nat) (a1 : Int) (a2 : Int) (a3 : Int) (a4 : Int) (a5 : Int) (ra0 : kt a0 = 14) (ra1 : rng a1) (ra2 : rng a2) (ra3 : rng a3) (ra4 : rng a4) (ra5 : rng a5) : CTi l g B yX11_model cX11_model 7 (some .int) 6 [.ref (B + a0), .int (ii a1), .int (ii a2), .int (ii a3), .int (ii a4), .int (ii a5)] h (fX11_model F a0 a1 a2 a3 a4 a5 h) := by
  refine z_enterI (by decide) rfl (Nat.le_of_ble_eq_true rfl) ?_
  intro p e s m args below meth c ls o Q cx hp hl hf hQ
  have hl : lv_has ls 7 [(0, .ref (B + a0)), (1, .int (ii a1)), (2, .int (ii a2)), (3, .int (ii a3)), (4, .int (ii a4)), (5, .int (ii a5))] := hl
  unfold fX11_model at hf
  refine lv_iload cx.1 cx.2.1 dX11_model_0 (lv_at hl 5 rfl) ?_
  refine z_ci cx hp (fun o' hx => zrunS (n := 6) (As := [.int (ii a5)]) (rest := []) cx hp (mX11_isDrawer F l g B h a5 ra5 o' hx) sw_X11_isDrawer ml_X11_123 (by decide) rfl hl.1 rfl (Nat.le_of_ble_eq_true rfl) dX11_model_2) hf (fun r1 h H locs rr1 hp hf => ?_)
  refine z_if_ne cx rr1 (tgt := 11) dX11_model_5 (by decide) hf (fun _ hf => ?_) (fun _ hf => ?_)
  · refine z_bipush cx (by decide) dX11_model_8 ?_
    rw [hQ]; exact z_iret cx hp (by decide) dX11_model_10 hf
  · refine lv_aload_n cx.1 cx.2.1 dX11_model_11 rfl (lv_at hl 0 rfl) ?_
    refine lv_iload_n cx.1 cx.2.1 dX11_model_12 rfl (lv_at hl 1 rfl) ?_
    refine lv_iload_n cx.1 cx.2.1 dX11_model_13 rfl (lv_at hl 2 rfl) ?_
    refine lv_iload_n cx.1 cx.2.1 dX11_model_14 rfl (lv_at hl 3 rfl) ?_
    refine z_ci cx hp (fun o' hx => zrunV (n := 6) (As := [.int (ii a1), .int (ii a2), .int (ii a3)]) (rest := []) cx hp (mX11_refuseModels F l g B h a0 a1 a2 a3 ra0 ra1 ra2 ra3 o' hx) 11 ra0 (by decide) rfl vw_X11_refuseModels ml_X11_339 (by decide) rfl hl.1 rfl (Nat.le_of_ble_eq_true rfl) dX11_model_15) hf (fun r2 h H locs rr2 hp hf => ?_)
    refine lv_istore (lv' := [(6, .int (ii r2)), (0, .ref (B + a0)), (1, .int (ii a1)), (2, .int (ii a2)), (3, .int (ii a3)), (4, .int (ii a4)), (5, .int (ii a5))]) cx.1 cx.2.1 dX11_model_18 hl (by decide) rfl (fun ls hl => ?_)
    refine lv_iload cx.1 cx.2.1 dX11_model_20 (lv_at hl 0 rfl) ?_
    refine z_if_eq cx rr2 (tgt := 28) dX11_model_22 (by decide) hf (fun _ hf => ?_) (fun _ hf => ?_)
    · refine lv_iload cx.1 cx.2.1 dX11_model_28 (lv_at hl 5 rfl) ?_
      refine z_if_ge cx ra4 (tgt := 36) dX11_model_30 (by decide) hf (fun _ hf => ?_) (fun _ hf => ?_)
      · refine z_bipush cx (by decide) dX11_model_33 ?_
        rw [hQ]; exact z_iret cx hp (by decide) dX11_model_35 hf
      · refine lv_aload_n cx.1 cx.2.1 dX11_model_36 rfl (lv_at hl 1 rfl) ?_
        refine z_gets cx hp (T := TX11) 11 3 (a0 + 6) rfl zin_11 (by decide) (by decide) ra0 rfl fl_X11_28 dX11_model_37 ?_
        refine lv_iload_n cx.1 cx.2.1 dX11_model_40 rfl (lv_at hl 2 rfl) ?_
        refine lv_iload_n cx.1 cx.2.1 dX11_model_41 rfl (lv_at hl 3 rfl) ?_
        refine z_cv cx hp (fun o' hx => zrunV (n := 6) (As := [.int (ii a1), .int (ii a2)]) (rest := []) cx hp (mX0_shape F l g B h (a0 + 6) a1 a2 (zs_11_3 a0 (kt_lt ra0 (by decide)) ra0) ra1 ra2 o' hx) 0 (zs_11_3 a0 (kt_lt ra0 (by decide)) ra0) (by decide) rfl vw_X0_shape ml_X11_130 (by decide) rfl hl.1 rfl (Nat.le_of_ble_eq_true rfl) dX11_model_42) hf (fun _ h H locs hp hf => ?_)
        refine lv_aload_n cx.1 cx.2.1 dX11_model_45 rfl (lv_at hl 1 rfl) ?_
        refine z_gets cx hp (T := TX11) 11 13 (a0 + 114) rfl zin_11 (by decide) (by decide) ra0 rfl fl_X11_97 dX11_model_46 ?_
        refine lv_aload_n cx.1 cx.2.1 dX11_model_49 rfl (lv_at hl 1 rfl) ?_
        refine z_gets cx hp (T := TX11) 11 3 (a0 + 6) rfl zin_11 (by decide) (by decide) ra0 rfl fl_X11_28 dX11_model_50 ?_
        refine lv_aload_n cx.1 cx.2.1 dX11_model_53 rfl (lv_at hl 1 rfl) ?_
        refine z_gets cx hp (T := TX11) 11 5 (a0 + 77) rfl zin_11 (by decide) (by decide) ra0 rfl fl_X11_41 dX11_model_54 ?_
        refine lv_iload_n cx.1 cx.2.1 dX11_model_57 rfl (lv_at hl 4 rfl) ?_
        refine z_aald2 cx hp (zs_11_5 a0 (kt_lt ra0 (by decide)) ra0) ra3 dX11_model_58 hf (fun x4 rx4 hf => ?_)
        refine lv_iload cx.1 cx.2.1 dX11_model_59 (lv_at hl 5 rfl) ?_
        refine z_ci cx hp (fun o' hx => zrunV (n := 6) (As := [.ref (B + (a0 + 6)), .ref (B + x4), .int (ii a4)]) (rest := []) cx hp (mX8_seek F l g B h (a0 + 114) (a0 + 6) x4 a4 (zs_11_13 a0 (kt_lt ra0 (by decide)) ra0) (zs_11_3 a0 (kt_lt ra0 (by decide)) ra0) rx4 ra4 o' hx) 8 (zs_11_13 a0 (kt_lt ra0 (by decide)) ra0) (by decide) rfl vw_X8_seek ml_X11_342 (by decide) rfl hl.1 rfl (Nat.le_of_ble_eq_true rfl) dX11_model_61) hf (fun r5 h H locs rr5 hp hf => ?_)
        refine z_if_ne cx rr5 (tgt := 70) dX11_model_64 (by decide) hf (fun _ hf => ?_) (fun _ hf => ?_)
        · refine z_bipush cx (by decide) dX11_model_67 ?_
          rw [hQ]; exact z_iret cx hp (by decide) dX11_model_69 hf
        · refine lv_aload_n cx.1 cx.2.1 dX11_model_70 rfl (lv_at hl 1 rfl) ?_
          refine lv_iload cx.1 cx.2.1 dX11_model_71 (lv_at hl 6 rfl) ?_
          refine z_cv cx hp (fun o' hx => zrunV (n := 6) (As := [.int (ii a5)]) (rest := []) cx hp (mX11_putDraft F l g B h a0 a5 ra0 ra5 o' hx) 11 ra0 (by decide) rfl vw_X11_putDraft ml_X11_134 (by decide) rfl hl.1 rfl (Nat.le_of_ble_eq_true rfl) dX11_model_73) hf (fun _ h H locs hp hf => ?_)
          refine lv_aload_n cx.1 cx.2.1 dX11_model_76 rfl (lv_at hl 1 rfl) ?_
          refine z_gets cx hp (T := TX11) 11 11 (a0 + 105) rfl zin_11 (by decide) (by decide) ra0 rfl fl_X11_81 dX11_model_77 ?_
          refine z_geti cx hp (T := TX6) 6 2 rfl zin_6 (by decide) (by decide) (zs_11_11 a0 (kt_lt ra0 (by decide)) ra0) rfl fl_X11_325 dX11_model_80 hf (fun x7 rx7 hf => ?_)
          rw [hQ]; exact z_iret cx hp rx7 dX11_model_83 hf
    · refine lv_iload cx.1 cx.2.1 dX11_model_25 (lv_at hl 0 rfl) ?_
      rw [hQ]; exact z_iret cx hp rr2 dX11_model_27 hf
theorem dX9_gather_0 : decode cX9_gather 0 = .ok (.aload_n 0, 1) := by decide +kernel
theorem dX9_gather_1 : decode cX9_gather 1 = .ok (.aload_n 1, 1) := by decide +kernel
theorem dX9_gather_2 : decode cX9_gather 2 = .ok (.putfield 21, 3) := by decide +kernel
theorem dX9_gather_5 : decode cX9_gather 5 = .ok (.aload_n 0, 1) := by decide +kernel
theorem dX9_gather_6 : decode cX9_gather 6 = .ok (.iconst 0, 1) := by decide +kernel
theorem dX9_gather_7 : decode cX9_gather 7 = .ok (.putfield 25, 3) := by decide +kernel
theorem dX9_gather_10 : decode cX9_gather 10 = .ok (.aload_n 0, 1) := by decide +kernel
theorem dX9_gather_11 : decode cX9_gather 11 = .ok (.iconst 0, 1) := by decide +kernel
theorem dX9_gather_12 : decode cX9_gather 12 = .ok (.putfield 29, 3) := by decide +kernel
theorem dX9_gather_15 : decode cX9_gather 15 = .ok (.iconst 0, 1) := by decide +kernel
theorem dX9_gather_16 : decode cX9_gather 16 = .ok (.istore_n 2, 1) := by decide +kernel
theorem dX9_gather_17 : decode cX9_gather 17 = .ok (.iload_n 2, 1) := by decide +kernel
theorem dX9_gather_18 : decode cX9_gather 18 = .ok (.aload_n 0, 1) := by decide +kernel
theorem dX9_gather_19 : decode cX9_gather 19 = .ok (.getfield 21, 3) := by decide +kernel
theorem dX9_gather_22 : decode cX9_gather 22 = .ok (.getfield 33, 3) := by decide +kernel
theorem dX9_gather_25 : decode cX9_gather 25 = .ok (.if_icmp .ge 16, 3) := by decide +kernel
theorem dX9_gather_28 : decode cX9_gather 28 = .ok (.aload_n 0, 1) := by decide +kernel
theorem dX9_gather_29 : decode cX9_gather 29 = .ok (.getfield 18, 3) := by decide +kernel
theorem dX9_gather_32 : decode cX9_gather 32 = .ok (.iload_n 2, 1) := by decide +kernel
theorem dX9_gather_33 : decode cX9_gather 33 = .ok (.iload_n 2, 1) := by decide +kernel
theorem dX9_gather_34 : decode cX9_gather 34 = .ok (.iastore, 1) := by decide +kernel
theorem dX9_gather_35 : decode cX9_gather 35 = .ok (.iinc 2 1, 3) := by decide +kernel
theorem dX9_gather_38 : decode cX9_gather 38 = .ok (.goto (-21), 3) := by decide +kernel
theorem dX9_gather_41 : decode cX9_gather 41 = .ok (.aload_n 0, 1) := by decide +kernel
theorem dX9_gather_42 : decode cX9_gather 42 = .ok (.invokevirtual 38, 3) := by decide +kernel
theorem dX9_gather_45 : decode cX9_gather 45 = .ok (.iconst 0, 1) := by decide +kernel
theorem dX9_gather_46 : decode cX9_gather 46 = .ok (.istore_n 2, 1) := by decide +kernel
theorem dX9_gather_47 : decode cX9_gather 47 = .ok (.iload_n 2, 1) := by decide +kernel
theorem dX9_gather_48 : decode cX9_gather 48 = .ok (.sipush 300, 3) := by decide +kernel
theorem dX9_gather_51 : decode cX9_gather 51 = .ok (.if_icmp .ge 49, 3) := by decide +kernel
theorem dX9_gather_54 : decode cX9_gather 54 = .ok (.iload_n 2, 1) := by decide +kernel
theorem dX9_gather_55 : decode cX9_gather 55 = .ok (.aload_n 0, 1) := by decide +kernel
theorem dX9_gather_56 : decode cX9_gather 56 = .ok (.getfield 25, 3) := by decide +kernel
theorem dX9_gather_59 : decode cX9_gather 59 = .ok (.if_icmp .ge 41, 3) := by decide +kernel
theorem dX9_gather_62 : decode cX9_gather 62 = .ok (.aload_n 0, 1) := by decide +kernel
theorem dX9_gather_63 : decode cX9_gather 63 = .ok (.getfield 29, 3) := by decide +kernel
theorem dX9_gather_66 : decode cX9_gather 66 = .ok (.ifCond .ne 34, 3) := by decide +kernel
theorem dX9_gather_69 : decode cX9_gather 69 = .ok (.iconst 0, 1) := by decide +kernel
theorem dX9_gather_70 : decode cX9_gather 70 = .ok (.istore_n 3, 1) := by decide +kernel
theorem dX9_gather_71 : decode cX9_gather 71 = .ok (.iload_n 3, 1) := by decide +kernel
theorem dX9_gather_72 : decode cX9_gather 72 = .ok (.aload_n 0, 1) := by decide +kernel
theorem dX9_gather_73 : decode cX9_gather 73 = .ok (.getfield 21, 3) := by decide +kernel
theorem dX9_gather_76 : decode cX9_gather 76 = .ok (.getfield 41, 3) := by decide +kernel
theorem dX9_gather_79 : decode cX9_gather 79 = .ok (.if_icmp .ge 15, 3) := by decide +kernel
theorem dX9_gather_82 : decode cX9_gather 82 = .ok (.aload_n 0, 1) := by decide +kernel
theorem dX9_gather_83 : decode cX9_gather 83 = .ok (.iload_n 3, 1) := by decide +kernel
theorem dX9_gather_84 : decode cX9_gather 84 = .ok (.iload_n 2, 1) := by decide +kernel
theorem dX9_gather_85 : decode cX9_gather 85 = .ok (.invokevirtual 44, 3) := by decide +kernel
theorem dX9_gather_88 : decode cX9_gather 88 = .ok (.iinc 3 1, 3) := by decide +kernel
theorem dX9_gather_91 : decode cX9_gather 91 = .ok (.goto (-20), 3) := by decide +kernel
theorem dX9_gather_94 : decode cX9_gather 94 = .ok (.iinc 2 1, 3) := by decide +kernel
theorem dX9_gather_97 : decode cX9_gather 97 = .ok (.goto (-50), 3) := by decide +kernel
theorem dX9_gather_100 : decode cX9_gather 100 = .ok (.return_, 1) := by decide +kernel
def LX9_gather_71 (F : Nat) (u0 : Nat) (u2 : Int) (k94 : Int → HF → RO) : Nat → Int → HF → RO
  | 0, _, _ => none
  | n + 1, v3, h =>
    zgd h u0 5 fun x5 =>
    zgf h x5 1 fun x6 =>
    if v3 < x6 then (
      zbd (fX9_combineUpTo F u0 v3 u2 h) fun _ h =>
      zlet (wr (v3 + 1)) fun x8 =>
      LX9_gather_71 F u0 u2 k94 n x8 h
    ) else (
      k94 u2 h
    )
set_option maxHeartbeats 4000000 in
set_option maxRecDepth 100000 in
theorem wX9_gather_71 {p : Program} {l : Launch} {e : Env} {s : State} {m : MethodId} {args : Array Value} {below : List Frame} {meth : Method} {c : Code} {Q : State → Prop} {g : zG} {B : Nat} {o : Int × HF} (F : Nat) (cx : Cx p s m args meth c cX9_gather 4 RX9 none g B) (u0 : Nat) (ru0 : kt u0 = 12) (u2 : Int) (ru2 : rng u2) (k94 : Int → HF → RO) (hk94 : ∀ (x2 : Int) (h : HF) (H : Heap) (locs : List Loc) (ls : Array Slot), rng x2 → Hp g B s h H locs → lv_has ls 4 [(0, .ref (B + u0)), (2, .int (ii x2))] → k94 x2 h = some o → W p l e (rmn 4) s m args below meth c H locs 0 0 Q (F0 m 94 ls [])) : ∀ (n : Nat) (v3 : Int) (h : HF) (H : Heap) (locs : List Loc) (ls : Array Slot), rng v3 → Hp g B s h H locs → lv_has ls 4 [(0, .ref (B + u0)), (2, .int (ii u2)), (3, .int (ii v3))] → LX9_gather_71 F u0 u2 k94 n v3 h = some o → W p l e (rmn 4) s m args below meth c H locs 0 0 Q (F0 m 71 ls []) := by
  intro n
  induction n with
  | zero =>
    intro v3 h H locs ls rv3 hp hl hf
    cases hf
  | succ n ih =>
    intro v3 h H locs ls rv3 hp hl hf
    rw [LX9_gather_71] at hf
    refine lv_iload_n cx.1 cx.2.1 dX9_gather_71 rfl (lv_at hl 2 rfl) ?_
    refine lv_aload_n cx.1 cx.2.1 dX9_gather_72 rfl (lv_at hl 0 rfl) ?_
    refine z_getd cx hp (T := TX9) 9 5 3 rfl zin_9 (by decide) (by decide) ru0 rfl fl_X9_21 dX9_gather_73 hf (fun x5 rx5 hf => ?_)
    refine z_geti cx hp (T := TX0) 0 1 rfl zin_0 (by decide) (by decide) rx5 rfl fl_X9_41 dX9_gather_76 hf (fun x6 rx6 hf => ?_)
    refine z_icmp_ge cx rv3 rx6 (tgt := 94) dX9_gather_79 (by decide) hf (fun _ hf => ?_) (fun _ hf => ?_)
    · refine lv_aload_n cx.1 cx.2.1 dX9_gather_82 rfl (lv_at hl 0 rfl) ?_
      refine lv_iload_n cx.1 cx.2.1 dX9_gather_83 rfl (lv_at hl 2 rfl) ?_
      refine lv_iload_n cx.1 cx.2.1 dX9_gather_84 rfl (lv_at hl 1 rfl) ?_
      refine z_cv cx hp (fun o' hx => zrunV (n := 4) (As := [.int (ii v3), .int (ii u2)]) (rest := []) cx hp (mX9_combineUpTo F l g B h u0 v3 u2 ru0 rv3 ru2 o' hx) 9 ru0 (by decide) rfl vw_X9_combineUpTo ml_X9_44 (by decide) rfl hl.1 rfl (Nat.le_of_ble_eq_true rfl) dX9_gather_85) hf (fun _ h H locs hp hf => ?_)
      refine z_iinc cx (fun x8 => [(3, .int (ii x8)), (0, .ref (B + u0)), (2, .int (ii u2))]) dX9_gather_88 hl (k := 2) rfl (by decide) (fun _ => rfl) hf (fun x8 rx8 hf ls hl => ?_)
      refine lv_goto (tgt := 71) cx.1 cx.2.1 dX9_gather_91 (by decide) ?_
      exact ih x8 h _ _ ls rx8 hp (lv_sub hl [1, 2, 0] rfl) hf
    · exact hk94 u2 h _ _ ls ru2 hp (lv_sub hl [0, 1] rfl) hf
def LX9_gather_47 (F : Nat) (u0 : Nat) (k100 : HF → RO) : Nat → Int → HF → RO
  | 0, _, _ => none
  | n + 1, v2, h =>
    if v2 < 300 then (
      zgf h u0 1 fun x2 =>
      if v2 < x2 then (
        zgf h u0 2 fun x3 =>
        if x3 = 0 then (
          zjn (fun (x94_2 : Int) (h : HF) => (
            zlet (wr (x94_2 + 1)) fun x4 =>
            LX9_gather_47 F u0 k100 n x4 h
          )) fun j94 =>
          LX9_gather_71 F u0 v2 j94 F 0 h
        ) else (
          k100  h
        )
      ) else (
        k100  h
      )
    ) else (
      k100  h
    )
set_option maxHeartbeats 4000000 in
set_option maxRecDepth 100000 in
theorem wX9_gather_47 {p : Program} {l : Launch} {e : Env} {s : State} {m : MethodId} {args : Array Value} {below : List Frame} {meth : Method} {c : Code} {Q : State → Prop} {g : zG} {B : Nat} {o : Int × HF} (F : Nat) (cx : Cx p s m args meth c cX9_gather 4 RX9 none g B) (u0 : Nat) (ru0 : kt u0 = 12) (k100 : HF → RO) (hk100 : ∀  (h : HF) (H : Heap) (locs : List Loc) (ls : Array Slot), Hp g B s h H locs → lv_has ls 4 [] → k100  h = some o → W p l e (rmn 4) s m args below meth c H locs 0 0 Q (F0 m 100 ls [])) : ∀ (n : Nat) (v2 : Int) (h : HF) (H : Heap) (locs : List Loc) (ls : Array Slot), rng v2 → Hp g B s h H locs → lv_has ls 4 [(0, .ref (B + u0)), (2, .int (ii v2))] → LX9_gather_47 F u0 k100 n v2 h = some o → W p l e (rmn 4) s m args below meth c H locs 0 0 Q (F0 m 47 ls []) := by
  intro n
  induction n with
  | zero =>
    intro v2 h H locs ls rv2 hp hl hf
    cases hf
  | succ n ih =>
    intro v2 h H locs ls rv2 hp hl hf
    rw [LX9_gather_47] at hf
    refine lv_iload_n cx.1 cx.2.1 dX9_gather_47 rfl (lv_at hl 1 rfl) ?_
    refine z_sipush cx (by decide) dX9_gather_48 ?_
    refine z_icmp_ge cx rv2 (by decide) (tgt := 100) dX9_gather_51 (by decide) hf (fun _ hf => ?_) (fun _ hf => ?_)
    · refine lv_iload_n cx.1 cx.2.1 dX9_gather_54 rfl (lv_at hl 1 rfl) ?_
      refine lv_aload_n cx.1 cx.2.1 dX9_gather_55 rfl (lv_at hl 0 rfl) ?_
      refine z_geti cx hp (T := TX9) 9 1 rfl zin_9 (by decide) (by decide) ru0 rfl fl_X9_25 dX9_gather_56 hf (fun x2 rx2 hf => ?_)
      refine z_icmp_ge cx rv2 rx2 (tgt := 100) dX9_gather_59 (by decide) hf (fun _ hf => ?_) (fun _ hf => ?_)
      · refine lv_aload_n cx.1 cx.2.1 dX9_gather_62 rfl (lv_at hl 0 rfl) ?_
        refine z_getz cx hp (T := TX9) 9 2 rfl zin_9 (by decide) (by decide) ru0 rfl fl_X9_29 dX9_gather_63 hf (fun x3 rx3 hf => ?_)
        refine z_if_ne cx rx3 (tgt := 100) dX9_gather_66 (by decide) hf (fun _ hf => ?_) (fun _ hf => ?_)
        · refine z_iconst cx dX9_gather_69 ?_
          refine lv_istore_n (lv' := [(3, .int (ii 0)), (0, .ref (B + u0)), (2, .int (ii v2))]) cx.1 cx.2.1 dX9_gather_70 rfl hl (by decide) rfl (fun ls hl => ?_)
          refine z_jn hf (fun j => ∀ (x94_2 : Int) (h : HF) (H : Heap) (locs : List Loc) (ls : Array Slot), rng x94_2 → Hp g B s h H locs → lv_has ls 4 [(0, .ref (B + u0)), (2, .int (ii x94_2))] → j x94_2 h = some o → W p l e (rmn 4) s m args below meth c H locs 0 0 Q (F0 m 94 ls [])) ?_ (fun j94 hj94 hf => ?_)
          · intro x94_2 h H locs ls rx94_2 hp hl hf
            refine z_iinc cx (fun x4 => [(2, .int (ii x4)), (0, .ref (B + u0))]) dX9_gather_94 hl (k := 1) rfl (by decide) (fun _ => rfl) hf (fun x4 rx4 hf ls hl => ?_)
            refine lv_goto (tgt := 47) cx.1 cx.2.1 dX9_gather_97 (by decide) ?_
            exact ih x4 h _ _ ls rx4 hp (lv_sub hl [1, 0] rfl) hf
          exact wX9_gather_71 F cx u0 ru0 v2 rv2 j94 hj94 F 0 h _ _ ls (by decide) hp (lv_sub hl [1, 2, 0] rfl) hf
        · exact hk100  h _ _ ls  hp (lv_sub hl [] rfl) hf
      · exact hk100  h _ _ ls  hp (lv_sub hl [] rfl) hf
    · exact hk100  h _ _ ls  hp (lv_sub hl [] rfl) hf
def LX9_gather_17 (F : Nat) (u0 : Nat) (k41 : HF → RO) : Nat → Int → HF → RO
  | 0, _, _ => none
  | n + 1, v2, h =>
    zgd h u0 5 fun x9 =>
    zgf h x9 0 fun x10 =>
    if v2 < x10 then (
      zwr h (u0 + 3) v2 v2 fun h =>
      zlet (wr (v2 + 1)) fun x11 =>
      LX9_gather_17 F u0 k41 n x11 h
    ) else (
      k41  h
    )
set_option maxHeartbeats 4000000 in
set_option maxRecDepth 100000 in
theorem wX9_gather_17 {p : Program} {l : Launch} {e : Env} {s : State} {m : MethodId} {args : Array Value} {below : List Frame} {meth : Method} {c : Code} {Q : State → Prop} {g : zG} {B : Nat} {o : Int × HF} (F : Nat) (cx : Cx p s m args meth c cX9_gather 4 RX9 none g B) (u0 : Nat) (ru0 : kt u0 = 12) (k41 : HF → RO) (hk41 : ∀  (h : HF) (H : Heap) (locs : List Loc) (ls : Array Slot), Hp g B s h H locs → lv_has ls 4 [(0, .ref (B + u0))] → k41  h = some o → W p l e (rmn 4) s m args below meth c H locs 0 0 Q (F0 m 41 ls [])) : ∀ (n : Nat) (v2 : Int) (h : HF) (H : Heap) (locs : List Loc) (ls : Array Slot), rng v2 → Hp g B s h H locs → lv_has ls 4 [(0, .ref (B + u0)), (2, .int (ii v2))] → LX9_gather_17 F u0 k41 n v2 h = some o → W p l e (rmn 4) s m args below meth c H locs 0 0 Q (F0 m 17 ls []) := by
  intro n
  induction n with
  | zero =>
    intro v2 h H locs ls rv2 hp hl hf
    cases hf
  | succ n ih =>
    intro v2 h H locs ls rv2 hp hl hf
    rw [LX9_gather_17] at hf
    refine lv_iload_n cx.1 cx.2.1 dX9_gather_17 rfl (lv_at hl 1 rfl) ?_
    refine lv_aload_n cx.1 cx.2.1 dX9_gather_18 rfl (lv_at hl 0 rfl) ?_
    refine z_getd cx hp (T := TX9) 9 5 3 rfl zin_9 (by decide) (by decide) ru0 rfl fl_X9_21 dX9_gather_19 hf (fun x9 rx9 hf => ?_)
    refine z_geti cx hp (T := TX0) 0 0 rfl zin_0 (by decide) (by decide) rx9 rfl fl_X9_33 dX9_gather_22 hf (fun x10 rx10 hf => ?_)
    refine z_icmp_ge cx rv2 rx10 (tgt := 41) dX9_gather_25 (by decide) hf (fun _ hf => ?_) (fun _ hf => ?_)
    · refine lv_aload_n cx.1 cx.2.1 dX9_gather_28 rfl (lv_at hl 0 rfl) ?_
      refine z_gets cx hp (T := TX9) 9 4 (u0 + 3) rfl zin_9 (by decide) (by decide) ru0 rfl fl_X9_18 dX9_gather_29 ?_
      refine lv_iload_n cx.1 cx.2.1 dX9_gather_32 rfl (lv_at hl 1 rfl) ?_
      refine lv_iload_n cx.1 cx.2.1 dX9_gather_33 rfl (lv_at hl 1 rfl) ?_
      refine z_iast cx hp (zs_9_4 u0 (kt_lt ru0 (by decide)) ru0) rv2 rv2 dX9_gather_34 hf (fun h H locs hp hf => ?_)
      refine z_iinc cx (fun x11 => [(2, .int (ii x11)), (0, .ref (B + u0))]) dX9_gather_35 hl (k := 1) rfl (by decide) (fun _ => rfl) hf (fun x11 rx11 hf ls hl => ?_)
      refine lv_goto (tgt := 17) cx.1 cx.2.1 dX9_gather_38 (by decide) ?_
      exact ih x11 h _ _ ls rx11 hp (lv_sub hl [1, 0] rfl) hf
    · exact hk41  h _ _ ls  hp (lv_sub hl [0] rfl) hf
def fX9_gather (F : Nat) (a0 : Nat) (a1 : Nat) (h : HF) : RO :=
  zpf h a0 5 ((a1 : Nat) : Int) fun h =>
  zpf h a0 1 0 fun h =>
  zpz h a0 2 0 fun h =>
  zjn (fun  (h : HF) => (
    zbd (fX9_addLine F a0 h) fun _ h =>
    zjn (fun  (h : HF) => (
      some (0, h)
    )) fun j100 =>
    LX9_gather_47 F a0 j100 F 0 h
  )) fun j41 =>
  LX9_gather_17 F a0 j41 F 0 h
set_option maxHeartbeats 4000000 in
set_option maxRecDepth 100000 in
theorem mX9_gather (F : Nat) (l : Launch) (g : zG) (B : Nat) (h : HF) (a0 : Nat) (a1 : Nat) (ra0 : kt a0 = 12) (ra1 : kt a1 = 3) : CTv l g B yX9_gather cX9_gather 4 4 [.ref (B + a0), .ref (B + a1)] h (fX9_gather F a0 a1 h) := by
  refine z_enterV (by decide) rfl (Nat.le_of_ble_eq_true rfl) ?_
  intro p e s m args below meth c ls o Q cx hp hl hf hQ
  have hl : lv_has ls 4 [(0, .ref (B + a0)), (1, .ref (B + a1))] := hl
  unfold fX9_gather at hf
  refine lv_aload_n cx.1 cx.2.1 dX9_gather_0 rfl (lv_at hl 0 rfl) ?_
  refine lv_aload_n cx.1 cx.2.1 dX9_gather_1 rfl (lv_at hl 1 rfl) ?_
  refine z_putd cx hp (T := TX9) tyX9 tyX9_ok nmX9 9 5 3 ra1 rfl zin_9 (by decide) (by decide) ra0 rfl rfl ⟨_, rfl⟩ fl_X9_21 dX9_gather_2 hf (fun h H locs hp hf => ?_)
  refine lv_aload_n cx.1 cx.2.1 dX9_gather_5 rfl (lv_at hl 0 rfl) ?_
  refine z_iconst cx dX9_gather_6 ?_
  refine z_puti cx hp (T := TX9) tyX9 tyX9_ok nmX9 9 1 (by decide) rfl zin_9 (by decide) (by decide) ra0 rfl rfl rfl fl_X9_25 dX9_gather_7 hf (fun h H locs hp hf => ?_)
  refine lv_aload_n cx.1 cx.2.1 dX9_gather_10 rfl (lv_at hl 0 rfl) ?_
  refine z_iconst cx dX9_gather_11 ?_
  refine z_putz cx hp (T := TX9) tyX9 tyX9_ok nmX9 9 2 rfl zin_9 (by decide) (by decide) ra0 rfl rfl rfl fl_X9_29 dX9_gather_12 hf (fun h H locs hp hf => ?_)
  refine z_iconst cx dX9_gather_15 ?_
  refine lv_istore_n (lv' := [(2, .int (ii 0)), (0, .ref (B + a0)), (1, .ref (B + a1))]) cx.1 cx.2.1 dX9_gather_16 rfl hl (by decide) rfl (fun ls hl => ?_)
  refine z_jn hf (fun j => ∀  (h : HF) (H : Heap) (locs : List Loc) (ls : Array Slot), Hp g B s h H locs → lv_has ls 4 [(0, .ref (B + a0))] → j  h = some o → W p l e (rmn 4) s m args below meth c H locs 0 0 Q (F0 m 41 ls [])) ?_ (fun j41 hj41 hf => ?_)
  · intro  h H locs ls  hp hl hf
    refine lv_aload_n cx.1 cx.2.1 dX9_gather_41 rfl (lv_at hl 0 rfl) ?_
    refine z_cv cx hp (fun o' hx => zrunV (n := 4) (As := []) (rest := []) cx hp (mX9_addLine F l g B h a0 ra0 o' hx) 9 ra0 (by decide) rfl vw_X9_addLine ml_X9_38 (by decide) rfl hl.1 rfl (Nat.le_of_ble_eq_true rfl) dX9_gather_42) hf (fun _ h H locs hp hf => ?_)
    refine z_iconst cx dX9_gather_45 ?_
    refine lv_istore_n (lv' := [(2, .int (ii 0)), (0, .ref (B + a0))]) cx.1 cx.2.1 dX9_gather_46 rfl hl (by decide) rfl (fun ls hl => ?_)
    refine z_jn hf (fun j => ∀  (h : HF) (H : Heap) (locs : List Loc) (ls : Array Slot), Hp g B s h H locs → lv_has ls 4 [] → j  h = some o → W p l e (rmn 4) s m args below meth c H locs 0 0 Q (F0 m 100 ls [])) ?_ (fun j100 hj100 hf => ?_)
    · intro  h H locs ls  hp hl hf
      rw [hQ]; exact z_vret cx hp dX9_gather_100 hf
    exact wX9_gather_47 F cx a0 ra0 j100 hj100 F 0 h _ _ ls (by decide) hp (lv_sub hl [1, 0] rfl) hf
  exact wX9_gather_17 F cx a0 ra0 j41 hj41 F 0 h _ _ ls (by decide) hp (lv_sub hl [1, 0] rfl) hf
