theorem dX0_isHeld_0 : decode cX0_isHeld 0 = .ok (.aload_n 0, 1) := by decide +kernel
theorem dX0_isHeld_1 : decode cX0_isHeld 1 = .ok (.getfield 21, 3) := by decide +kernel
theorem dX0_isHeld_4 : decode cX0_isHeld 4 = .ok (.ifCond .le 7, 3) := by decide +kernel
theorem dX0_isHeld_7 : decode cX0_isHeld 7 = .ok (.iconst 1, 1) := by decide +kernel
theorem dX0_isHeld_8 : decode cX0_isHeld 8 = .ok (.goto 4, 3) := by decide +kernel
theorem dX0_isHeld_11 : decode cX0_isHeld 11 = .ok (.iconst 0, 1) := by decide +kernel
theorem dX0_isHeld_12 : decode cX0_isHeld 12 = .ok (.ireturn, 1) := by decide +kernel
def fX0_isHeld (F : Nat) (a0 : Nat) (h : HF) : RO :=
  zgf h a0 0 fun x1 =>
  zjn (fun (y12_0 : Int) (h : HF) => (
    zrz y12_0 h
  )) fun j12 =>
  if 0 < x1 then (
    j12 1 h
  ) else (
    j12 0 h
  )
set_option maxHeartbeats 4000000 in
set_option maxRecDepth 100000 in
theorem mX0_isHeld (F : Nat) (l : Launch) (g : zG) (B : Nat) (h : HF) (a0 : Nat) (ra0 : kt a0 = 3) : CTi l g B yX0_isHeld cX0_isHeld 1 (some .boolean) 0 [.ref (B + a0)] h (fX0_isHeld F a0 h) := by
  refine z_enterI (by decide) rfl (Nat.le_of_ble_eq_true rfl) ?_
  intro p e s m args below meth c ls o Q cx hp hl hf hQ
  have hl : lv_has ls 1 [(0, .ref (B + a0))] := hl
  unfold fX0_isHeld at hf
  refine lv_aload_n cx.1 cx.2.1 dX0_isHeld_0 rfl (lv_at hl 0 rfl) ?_
  refine z_geti cx hp (T := TX0) 0 0 rfl zin_0 (by decide) (by decide) ra0 rfl fl_X0_21 dX0_isHeld_1 hf (fun x1 rx1 hf => ?_)
  refine z_jn hf (fun j => ∀ (y12_0 : Int) (h : HF) (H : Heap) (locs : List Loc) (ls : Array Slot), rng y12_0 → Hp g B s h H locs → lv_has ls 1 [] → j y12_0 h = some o → W p l e (rmn 0) s m args below meth c H locs 0 0 Q (F0 m 12 ls [.int (ii y12_0)])) ?_ (fun j12 hj12 hf => ?_)
  · intro y12_0 h H locs ls ry12_0 hp hl hf
    rw [hQ]; exact z_zret cx hp dX0_isHeld_12 hf
  refine z_if_le cx rx1 (tgt := 11) dX0_isHeld_4 (by decide) hf (fun _ hf => ?_) (fun _ hf => ?_)
  · refine z_iconst cx dX0_isHeld_7 ?_
    refine lv_goto (tgt := 12) cx.1 cx.2.1 dX0_isHeld_8 (by decide) ?_
    exact hj12 1 h _ _ ls (by decide) hp (lv_sub hl [] rfl) hf
  · refine z_iconst cx dX0_isHeld_11 ?_
    exact hj12 0 h _ _ ls (by decide) hp (lv_sub hl [] rfl) hf
theorem dX0_begin_0 : decode cX0_begin 0 = .ok (.aload_n 0, 1) := by decide +kernel
theorem dX0_begin_1 : decode cX0_begin 1 = .ok (.iload_n 1, 1) := by decide +kernel
theorem dX0_begin_2 : decode cX0_begin 2 = .ok (.putfield 21, 3) := by decide +kernel
theorem dX0_begin_5 : decode cX0_begin 5 = .ok (.aload_n 0, 1) := by decide +kernel
theorem dX0_begin_6 : decode cX0_begin 6 = .ok (.iconst 0, 1) := by decide +kernel
theorem dX0_begin_7 : decode cX0_begin 7 = .ok (.putfield 29, 3) := by decide +kernel
theorem dX0_begin_10 : decode cX0_begin 10 = .ok (.aload_n 0, 1) := by decide +kernel
theorem dX0_begin_11 : decode cX0_begin 11 = .ok (.iconst 0, 1) := by decide +kernel
theorem dX0_begin_12 : decode cX0_begin 12 = .ok (.putfield 32, 3) := by decide +kernel
theorem dX0_begin_15 : decode cX0_begin 15 = .ok (.return_, 1) := by decide +kernel
def fX0_begin (F : Nat) (a0 : Nat) (a1 : Int) (h : HF) : RO :=
  zpf h a0 0 a1 fun h =>
  zpf h a0 1 0 fun h =>
  zpf h a0 2 0 fun h =>
  some (0, h)
set_option maxHeartbeats 4000000 in
set_option maxRecDepth 100000 in
theorem mX0_begin (F : Nat) (l : Launch) (g : zG) (B : Nat) (h : HF) (a0 : Nat) (a1 : Int) (ra0 : kt a0 = 3) (ra1 : rng a1) : CTv l g B yX0_begin cX0_begin 2 0 [.ref (B + a0), .int (ii a1)] h (fX0_begin F a0 a1 h) := by
  refine z_enterV (by decide) rfl (Nat.le_of_ble_eq_true rfl) ?_
  intro p e s m args below meth c ls o Q cx hp hl hf hQ
  have hl : lv_has ls 2 [(0, .ref (B + a0)), (1, .int (ii a1))] := hl
  unfold fX0_begin at hf
  refine lv_aload_n cx.1 cx.2.1 dX0_begin_0 rfl (lv_at hl 0 rfl) ?_
  refine lv_iload_n cx.1 cx.2.1 dX0_begin_1 rfl (lv_at hl 1 rfl) ?_
  refine z_puti cx hp (T := TX0) tyX0 tyX0_ok nmX0 0 0 ra1 rfl zin_0 (by decide) (by decide) ra0 rfl rfl rfl fl_X0_21 dX0_begin_2 hf (fun h H locs hp hf => ?_)
  refine lv_aload_n cx.1 cx.2.1 dX0_begin_5 rfl (lv_at hl 0 rfl) ?_
  refine z_iconst cx dX0_begin_6 ?_
  refine z_puti cx hp (T := TX0) tyX0 tyX0_ok nmX0 0 1 (by decide) rfl zin_0 (by decide) (by decide) ra0 rfl rfl rfl fl_X0_29 dX0_begin_7 hf (fun h H locs hp hf => ?_)
  refine lv_aload_n cx.1 cx.2.1 dX0_begin_10 rfl (lv_at hl 0 rfl) ?_
  refine z_iconst cx dX0_begin_11 ?_
  refine z_puti cx hp (T := TX0) tyX0 tyX0_ok nmX0 0 2 (by decide) rfl zin_0 (by decide) (by decide) ra0 rfl rfl rfl fl_X0_32 dX0_begin_12 hf (fun h H locs hp hf => ?_)
  rw [hQ]; exact z_vret cx hp dX0_begin_15 hf
theorem dX0_cellCount_0 : decode cX0_cellCount 0 = .ok (.aload_n 0, 1) := by decide +kernel
theorem dX0_cellCount_1 : decode cX0_cellCount 1 = .ok (.getfield 15, 3) := by decide +kernel
theorem dX0_cellCount_4 : decode cX0_cellCount 4 = .ok (.aload_n 0, 1) := by decide +kernel
theorem dX0_cellCount_5 : decode cX0_cellCount 5 = .ok (.getfield 29, 3) := by decide +kernel
theorem dX0_cellCount_8 : decode cX0_cellCount 8 = .ok (.iaload, 1) := by decide +kernel
theorem dX0_cellCount_9 : decode cX0_cellCount 9 = .ok (.ireturn, 1) := by decide +kernel
def fX0_cellCount (F : Nat) (a0 : Nat) (h : HF) : RO :=
  zgf h a0 1 fun x1 =>
  zrd h (a0 + 2) x1 fun x2 =>
  some (x2, h)
set_option maxHeartbeats 4000000 in
set_option maxRecDepth 100000 in
theorem mX0_cellCount (F : Nat) (l : Launch) (g : zG) (B : Nat) (h : HF) (a0 : Nat) (ra0 : kt a0 = 3) : CTi l g B yX0_cellCount cX0_cellCount 1 (some .int) 0 [.ref (B + a0)] h (fX0_cellCount F a0 h) := by
  refine z_enterI (by decide) rfl (Nat.le_of_ble_eq_true rfl) ?_
  intro p e s m args below meth c ls o Q cx hp hl hf hQ
  have hl : lv_has ls 1 [(0, .ref (B + a0))] := hl
  unfold fX0_cellCount at hf
  refine lv_aload_n cx.1 cx.2.1 dX0_cellCount_0 rfl (lv_at hl 0 rfl) ?_
  refine z_gets cx hp (T := TX0) 0 4 (a0 + 2) rfl zin_0 (by decide) (by decide) ra0 rfl fl_X0_15 dX0_cellCount_1 ?_
  refine lv_aload_n cx.1 cx.2.1 dX0_cellCount_4 rfl (lv_at hl 0 rfl) ?_
  refine z_geti cx hp (T := TX0) 0 1 rfl zin_0 (by decide) (by decide) ra0 rfl fl_X0_29 dX0_cellCount_5 hf (fun x1 rx1 hf => ?_)
  refine z_iald cx hp (zs_0_4 a0 (kt_lt ra0 (by decide)) ra0) rx1 dX0_cellCount_8 hf (fun x2 rx2 hf => ?_)
  rw [hQ]; exact z_iret cx hp rx2 dX0_cellCount_9 hf
theorem dX0_rows_0 : decode cX0_rows 0 = .ok (.aload_n 0, 1) := by decide +kernel
theorem dX0_rows_1 : decode cX0_rows 1 = .ok (.getfield 9, 3) := by decide +kernel
theorem dX0_rows_4 : decode cX0_rows 4 = .ok (.iload_n 1, 1) := by decide +kernel
theorem dX0_rows_5 : decode cX0_rows 5 = .ok (.iaload, 1) := by decide +kernel
theorem dX0_rows_6 : decode cX0_rows 6 = .ok (.ifCond .ne 7, 3) := by decide +kernel
theorem dX0_rows_9 : decode cX0_rows 9 = .ok (.iconst 1, 1) := by decide +kernel
theorem dX0_rows_10 : decode cX0_rows 10 = .ok (.goto 7, 3) := by decide +kernel
theorem dX0_rows_13 : decode cX0_rows 13 = .ok (.aload_n 0, 1) := by decide +kernel
theorem dX0_rows_14 : decode cX0_rows 14 = .ok (.getfield 21, 3) := by decide +kernel
theorem dX0_rows_17 : decode cX0_rows 17 = .ok (.ireturn, 1) := by decide +kernel
def fX0_rows (F : Nat) (a0 : Nat) (a1 : Int) (h : HF) : RO :=
  zrd h (a0 + 1) a1 fun x1 =>
  zjn (fun (y17_0 : Int) (h : HF) => (
    some (y17_0, h)
  )) fun j17 =>
  if x1 = 0 then (
    j17 1 h
  ) else (
    zgf h a0 0 fun x2 =>
    j17 x2 h
  )
set_option maxHeartbeats 4000000 in
set_option maxRecDepth 100000 in
theorem mX0_rows (F : Nat) (l : Launch) (g : zG) (B : Nat) (h : HF) (a0 : Nat) (a1 : Int) (ra0 : kt a0 = 3) (ra1 : rng a1) : CTi l g B yX0_rows cX0_rows 2 (some .int) 0 [.ref (B + a0), .int (ii a1)] h (fX0_rows F a0 a1 h) := by
  refine z_enterI (by decide) rfl (Nat.le_of_ble_eq_true rfl) ?_
  intro p e s m args below meth c ls o Q cx hp hl hf hQ
  have hl : lv_has ls 2 [(0, .ref (B + a0)), (1, .int (ii a1))] := hl
  unfold fX0_rows at hf
  refine lv_aload_n cx.1 cx.2.1 dX0_rows_0 rfl (lv_at hl 0 rfl) ?_
  refine z_gets cx hp (T := TX0) 0 3 (a0 + 1) rfl zin_0 (by decide) (by decide) ra0 rfl fl_X0_9 dX0_rows_1 ?_
  refine lv_iload_n cx.1 cx.2.1 dX0_rows_4 rfl (lv_at hl 1 rfl) ?_
  refine z_iald cx hp (zs_0_3 a0 (kt_lt ra0 (by decide)) ra0) ra1 dX0_rows_5 hf (fun x1 rx1 hf => ?_)
  refine z_jn hf (fun j => ∀ (y17_0 : Int) (h : HF) (H : Heap) (locs : List Loc) (ls : Array Slot), rng y17_0 → Hp g B s h H locs → lv_has ls 2 [] → j y17_0 h = some o → W p l e (rmn 0) s m args below meth c H locs 0 0 Q (F0 m 17 ls [.int (ii y17_0)])) ?_ (fun j17 hj17 hf => ?_)
  · intro y17_0 h H locs ls ry17_0 hp hl hf
    rw [hQ]; exact z_iret cx hp ry17_0 dX0_rows_17 hf
  refine z_if_ne cx rx1 (tgt := 13) dX0_rows_6 (by decide) hf (fun _ hf => ?_) (fun _ hf => ?_)
  · refine z_iconst cx dX0_rows_9 ?_
    refine lv_goto (tgt := 17) cx.1 cx.2.1 dX0_rows_10 (by decide) ?_
    exact hj17 1 h _ _ ls (by decide) hp (lv_sub hl [] rfl) hf
  · refine lv_aload_n cx.1 cx.2.1 dX0_rows_13 rfl (lv_at hl 0 rfl) ?_
    refine z_geti cx hp (T := TX0) 0 0 rfl zin_0 (by decide) (by decide) ra0 rfl fl_X0_21 dX0_rows_14 hf (fun x2 rx2 hf => ?_)
    exact hj17 x2 h _ _ ls rx2 hp (lv_sub hl [] rfl) hf
theorem dX0_columns_0 : decode cX0_columns 0 = .ok (.aload_n 0, 1) := by decide +kernel
theorem dX0_columns_1 : decode cX0_columns 1 = .ok (.getfield 9, 3) := by decide +kernel
theorem dX0_columns_4 : decode cX0_columns 4 = .ok (.iload_n 1, 1) := by decide +kernel
theorem dX0_columns_5 : decode cX0_columns 5 = .ok (.iaload, 1) := by decide +kernel
theorem dX0_columns_6 : decode cX0_columns 6 = .ok (.iconst 2, 1) := by decide +kernel
theorem dX0_columns_7 : decode cX0_columns 7 = .ok (.if_icmp .ne 10, 3) := by decide +kernel
theorem dX0_columns_10 : decode cX0_columns 10 = .ok (.aload_n 0, 1) := by decide +kernel
theorem dX0_columns_11 : decode cX0_columns 11 = .ok (.getfield 21, 3) := by decide +kernel
theorem dX0_columns_14 : decode cX0_columns 14 = .ok (.goto 4, 3) := by decide +kernel
theorem dX0_columns_17 : decode cX0_columns 17 = .ok (.iconst 1, 1) := by decide +kernel
theorem dX0_columns_18 : decode cX0_columns 18 = .ok (.ireturn, 1) := by decide +kernel
def fX0_columns (F : Nat) (a0 : Nat) (a1 : Int) (h : HF) : RO :=
  zrd h (a0 + 1) a1 fun x1 =>
  zjn (fun (y18_0 : Int) (h : HF) => (
    some (y18_0, h)
  )) fun j18 =>
  if x1 = 2 then (
    zgf h a0 0 fun x2 =>
    j18 x2 h
  ) else (
    j18 1 h
  )
set_option maxHeartbeats 4000000 in
set_option maxRecDepth 100000 in
theorem mX0_columns (F : Nat) (l : Launch) (g : zG) (B : Nat) (h : HF) (a0 : Nat) (a1 : Int) (ra0 : kt a0 = 3) (ra1 : rng a1) : CTi l g B yX0_columns cX0_columns 2 (some .int) 0 [.ref (B + a0), .int (ii a1)] h (fX0_columns F a0 a1 h) := by
  refine z_enterI (by decide) rfl (Nat.le_of_ble_eq_true rfl) ?_
  intro p e s m args below meth c ls o Q cx hp hl hf hQ
  have hl : lv_has ls 2 [(0, .ref (B + a0)), (1, .int (ii a1))] := hl
  unfold fX0_columns at hf
  refine lv_aload_n cx.1 cx.2.1 dX0_columns_0 rfl (lv_at hl 0 rfl) ?_
  refine z_gets cx hp (T := TX0) 0 3 (a0 + 1) rfl zin_0 (by decide) (by decide) ra0 rfl fl_X0_9 dX0_columns_1 ?_
  refine lv_iload_n cx.1 cx.2.1 dX0_columns_4 rfl (lv_at hl 1 rfl) ?_
  refine z_iald cx hp (zs_0_3 a0 (kt_lt ra0 (by decide)) ra0) ra1 dX0_columns_5 hf (fun x1 rx1 hf => ?_)
  refine z_iconst cx dX0_columns_6 ?_
  refine z_jn hf (fun j => ∀ (y18_0 : Int) (h : HF) (H : Heap) (locs : List Loc) (ls : Array Slot), rng y18_0 → Hp g B s h H locs → lv_has ls 2 [] → j y18_0 h = some o → W p l e (rmn 0) s m args below meth c H locs 0 0 Q (F0 m 18 ls [.int (ii y18_0)])) ?_ (fun j18 hj18 hf => ?_)
  · intro y18_0 h H locs ls ry18_0 hp hl hf
    rw [hQ]; exact z_iret cx hp ry18_0 dX0_columns_18 hf
  refine z_icmp_ne cx rx1 (by decide) (tgt := 17) dX0_columns_7 (by decide) hf (fun _ hf => ?_) (fun _ hf => ?_)
  · refine lv_aload_n cx.1 cx.2.1 dX0_columns_10 rfl (lv_at hl 0 rfl) ?_
    refine z_geti cx hp (T := TX0) 0 0 rfl zin_0 (by decide) (by decide) ra0 rfl fl_X0_21 dX0_columns_11 hf (fun x2 rx2 hf => ?_)
    refine lv_goto (tgt := 18) cx.1 cx.2.1 dX0_columns_14 (by decide) ?_
    exact hj18 x2 h _ _ ls rx2 hp (lv_sub hl [] rfl) hf
  · refine z_iconst cx dX0_columns_17 ?_
    exact hj18 1 h _ _ ls (by decide) hp (lv_sub hl [] rfl) hf
theorem dX0_spot_0 : decode cX0_spot 0 = .ok (.aload_n 0, 1) := by decide +kernel
theorem dX0_spot_1 : decode cX0_spot 1 = .ok (.getfield 9, 3) := by decide +kernel
theorem dX0_spot_4 : decode cX0_spot 4 = .ok (.iload_n 1, 1) := by decide +kernel
theorem dX0_spot_5 : decode cX0_spot 5 = .ok (.iaload, 1) := by decide +kernel
theorem dX0_spot_6 : decode cX0_spot 6 = .ok (.lookupswitch 42 #[(0, 26), (1, 33)], 26) := by decide +kernel
theorem dX0_spot_48 : decode cX0_spot 48 = .ok (.aload_n 0, 1) := by decide +kernel
theorem dX0_spot_49 : decode cX0_spot 49 = .ok (.getfield 15, 3) := by decide +kernel
theorem dX0_spot_52 : decode cX0_spot 52 = .ok (.iload_n 1, 1) := by decide +kernel
theorem dX0_spot_53 : decode cX0_spot 53 = .ok (.iaload, 1) := by decide +kernel
theorem dX0_spot_54 : decode cX0_spot 54 = .ok (.iload_n 2, 1) := by decide +kernel
theorem dX0_spot_55 : decode cX0_spot 55 = .ok (.aload_n 0, 1) := by decide +kernel
theorem dX0_spot_56 : decode cX0_spot 56 = .ok (.getfield 21, 3) := by decide +kernel
theorem dX0_spot_59 : decode cX0_spot 59 = .ok (.imul, 1) := by decide +kernel
theorem dX0_spot_60 : decode cX0_spot 60 = .ok (.iadd, 1) := by decide +kernel
theorem dX0_spot_61 : decode cX0_spot 61 = .ok (.iload_n 3, 1) := by decide +kernel
theorem dX0_spot_62 : decode cX0_spot 62 = .ok (.iadd, 1) := by decide +kernel
theorem dX0_spot_63 : decode cX0_spot 63 = .ok (.ireturn, 1) := by decide +kernel
theorem dX0_spot_39 : decode cX0_spot 39 = .ok (.aload_n 0, 1) := by decide +kernel
theorem dX0_spot_40 : decode cX0_spot 40 = .ok (.getfield 15, 3) := by decide +kernel
theorem dX0_spot_43 : decode cX0_spot 43 = .ok (.iload_n 1, 1) := by decide +kernel
theorem dX0_spot_44 : decode cX0_spot 44 = .ok (.iaload, 1) := by decide +kernel
theorem dX0_spot_45 : decode cX0_spot 45 = .ok (.iload_n 2, 1) := by decide +kernel
theorem dX0_spot_46 : decode cX0_spot 46 = .ok (.iadd, 1) := by decide +kernel
theorem dX0_spot_47 : decode cX0_spot 47 = .ok (.ireturn, 1) := by decide +kernel
theorem dX0_spot_32 : decode cX0_spot 32 = .ok (.aload_n 0, 1) := by decide +kernel
theorem dX0_spot_33 : decode cX0_spot 33 = .ok (.getfield 15, 3) := by decide +kernel
theorem dX0_spot_36 : decode cX0_spot 36 = .ok (.iload_n 1, 1) := by decide +kernel
theorem dX0_spot_37 : decode cX0_spot 37 = .ok (.iaload, 1) := by decide +kernel
theorem dX0_spot_38 : decode cX0_spot 38 = .ok (.ireturn, 1) := by decide +kernel
def fX0_spot (F : Nat) (a0 : Nat) (a1 : Int) (a2 : Int) (a3 : Int) (h : HF) : RO :=
  zrd h (a0 + 1) a1 fun x1 =>
  if x1 = 0 then (
    zrd h (a0 + 2) a1 fun x3 =>
    some (x3, h)
  ) else (
  if x1 = 1 then (
    zrd h (a0 + 2) a1 fun x5 =>
    some (wr (x5 + a2), h)
  ) else (
    zrd h (a0 + 2) a1 fun x6 =>
    zgf h a0 0 fun x7 =>
    some (wr ((wr (x6 + (wr (a2 * x7)))) + a3), h)
  )
  )
set_option maxHeartbeats 4000000 in
set_option maxRecDepth 100000 in
theorem mX0_spot (F : Nat) (l : Launch) (g : zG) (B : Nat) (h : HF) (a0 : Nat) (a1 : Int) (a2 : Int) (a3 : Int) (ra0 : kt a0 = 3) (ra1 : rng a1) (ra2 : rng a2) (ra3 : rng a3) : CTi l g B yX0_spot cX0_spot 4 (some .int) 0 [.ref (B + a0), .int (ii a1), .int (ii a2), .int (ii a3)] h (fX0_spot F a0 a1 a2 a3 h) := by
  refine z_enterI (by decide) rfl (Nat.le_of_ble_eq_true rfl) ?_
  intro p e s m args below meth c ls o Q cx hp hl hf hQ
  have hl : lv_has ls 4 [(0, .ref (B + a0)), (1, .int (ii a1)), (2, .int (ii a2)), (3, .int (ii a3))] := hl
  unfold fX0_spot at hf
  refine lv_aload_n cx.1 cx.2.1 dX0_spot_0 rfl (lv_at hl 0 rfl) ?_
  refine z_gets cx hp (T := TX0) 0 3 (a0 + 1) rfl zin_0 (by decide) (by decide) ra0 rfl fl_X0_9 dX0_spot_1 ?_
  refine lv_iload_n cx.1 cx.2.1 dX0_spot_4 rfl (lv_at hl 1 rfl) ?_
  refine z_iald cx hp (zs_0_3 a0 (kt_lt ra0 (by decide)) ra0) ra1 dX0_spot_5 hf (fun x1 rx1 hf => ?_)
  refine ite_inv hf (fun c2 hf => ?_) (fun c2 hf => ?_)
  · refine lv_lookup (off := 26) (tgt := 32) cx.1 cx.2.1 dX0_spot_6 (by decide) (by rw [c2]; decide) (by decide) ?_
    refine lv_aload_n cx.1 cx.2.1 dX0_spot_32 rfl (lv_at hl 0 rfl) ?_
    refine z_gets cx hp (T := TX0) 0 4 (a0 + 2) rfl zin_0 (by decide) (by decide) ra0 rfl fl_X0_15 dX0_spot_33 ?_
    refine lv_iload_n cx.1 cx.2.1 dX0_spot_36 rfl (lv_at hl 1 rfl) ?_
    refine z_iald cx hp (zs_0_4 a0 (kt_lt ra0 (by decide)) ra0) ra1 dX0_spot_37 hf (fun x3 rx3 hf => ?_)
    rw [hQ]; exact z_iret cx hp rx3 dX0_spot_38 hf
  · refine ite_inv hf (fun c4 hf => ?_) (fun c4 hf => ?_)
    · refine lv_lookup (off := 33) (tgt := 39) cx.1 cx.2.1 dX0_spot_6 (by decide) (by rw [c4]; decide) (by decide) ?_
      refine lv_aload_n cx.1 cx.2.1 dX0_spot_39 rfl (lv_at hl 0 rfl) ?_
      refine z_gets cx hp (T := TX0) 0 4 (a0 + 2) rfl zin_0 (by decide) (by decide) ra0 rfl fl_X0_15 dX0_spot_40 ?_
      refine lv_iload_n cx.1 cx.2.1 dX0_spot_43 rfl (lv_at hl 1 rfl) ?_
      refine z_iald cx hp (zs_0_4 a0 (kt_lt ra0 (by decide)) ra0) ra1 dX0_spot_44 hf (fun x5 rx5 hf => ?_)
      refine lv_iload_n cx.1 cx.2.1 dX0_spot_45 rfl (lv_at hl 2 rfl) ?_
      refine z_iadd cx dX0_spot_46 ?_
      rw [hQ]; exact z_iret cx hp (rng_wr _) dX0_spot_47 hf
    · refine lv_lookup (off := 42) (tgt := 48) cx.1 cx.2.1 dX0_spot_6 (by decide) (by rw [ii_ti rx1]; exact ((if_neg (fun q => c2 q.symm)).trans ((if_neg (fun q => c4 q.symm)).trans rfl))) (by decide) ?_
      refine lv_aload_n cx.1 cx.2.1 dX0_spot_48 rfl (lv_at hl 0 rfl) ?_
      refine z_gets cx hp (T := TX0) 0 4 (a0 + 2) rfl zin_0 (by decide) (by decide) ra0 rfl fl_X0_15 dX0_spot_49 ?_
      refine lv_iload_n cx.1 cx.2.1 dX0_spot_52 rfl (lv_at hl 1 rfl) ?_
      refine z_iald cx hp (zs_0_4 a0 (kt_lt ra0 (by decide)) ra0) ra1 dX0_spot_53 hf (fun x6 rx6 hf => ?_)
      refine lv_iload_n cx.1 cx.2.1 dX0_spot_54 rfl (lv_at hl 2 rfl) ?_
      refine lv_aload_n cx.1 cx.2.1 dX0_spot_55 rfl (lv_at hl 0 rfl) ?_
      refine z_geti cx hp (T := TX0) 0 0 rfl zin_0 (by decide) (by decide) ra0 rfl fl_X0_21 dX0_spot_56 hf (fun x7 rx7 hf => ?_)
      refine z_imul cx dX0_spot_59 ?_
      refine z_iadd cx dX0_spot_60 ?_
      refine lv_iload_n cx.1 cx.2.1 dX0_spot_61 rfl (lv_at hl 3 rfl) ?_
      refine z_iadd cx dX0_spot_62 ?_
      rw [hQ]; exact z_iret cx hp (rng_wr _) dX0_spot_63 hf
theorem dX0_value_0 : decode cX0_value 0 = .ok (.aload_n 0, 1) := by decide +kernel
theorem dX0_value_1 : decode cX0_value 1 = .ok (.getfield 18, 3) := by decide +kernel
theorem dX0_value_4 : decode cX0_value 4 = .ok (.aload_n 0, 1) := by decide +kernel
theorem dX0_value_5 : decode cX0_value 5 = .ok (.iload_n 1, 1) := by decide +kernel
theorem dX0_value_6 : decode cX0_value 6 = .ok (.iload_n 2, 1) := by decide +kernel
theorem dX0_value_7 : decode cX0_value 7 = .ok (.iload_n 3, 1) := by decide +kernel
theorem dX0_value_8 : decode cX0_value 8 = .ok (.invokevirtual 61, 3) := by decide +kernel
theorem dX0_value_11 : decode cX0_value 11 = .ok (.iaload, 1) := by decide +kernel
theorem dX0_value_12 : decode cX0_value 12 = .ok (.ireturn, 1) := by decide +kernel
def fX0_value (F : Nat) (a0 : Nat) (a1 : Int) (a2 : Int) (a3 : Int) (h : HF) : RO :=
  zbd (fX0_spot F a0 a1 a2 a3 h) fun r1 h =>
  zrd h (a0 + 3) r1 fun x2 =>
  some (x2, h)
set_option maxHeartbeats 4000000 in
set_option maxRecDepth 100000 in
theorem mX0_value (F : Nat) (l : Launch) (g : zG) (B : Nat) (h : HF) (a0 : Nat) (a1 : Int) (a2 : Int) (a3 : Int) (ra0 : kt a0 = 3) (ra1 : rng a1) (ra2 : rng a2) (ra3 : rng a3) : CTi l g B yX0_value cX0_value 4 (some .int) 1 [.ref (B + a0), .int (ii a1), .int (ii a2), .int (ii a3)] h (fX0_value F a0 a1 a2 a3 h) := by
  refine z_enterI (by decide) rfl (Nat.le_of_ble_eq_true rfl) ?_
  intro p e s m args below meth c ls o Q cx hp hl hf hQ
  have hl : lv_has ls 4 [(0, .ref (B + a0)), (1, .int (ii a1)), (2, .int (ii a2)), (3, .int (ii a3))] := hl
  unfold fX0_value at hf
  refine lv_aload_n cx.1 cx.2.1 dX0_value_0 rfl (lv_at hl 0 rfl) ?_
  refine z_gets cx hp (T := TX0) 0 5 (a0 + 3) rfl zin_0 (by decide) (by decide) ra0 rfl fl_X0_18 dX0_value_1 ?_
  refine lv_aload_n cx.1 cx.2.1 dX0_value_4 rfl (lv_at hl 0 rfl) ?_
  refine lv_iload_n cx.1 cx.2.1 dX0_value_5 rfl (lv_at hl 1 rfl) ?_
  refine lv_iload_n cx.1 cx.2.1 dX0_value_6 rfl (lv_at hl 2 rfl) ?_
  refine lv_iload_n cx.1 cx.2.1 dX0_value_7 rfl (lv_at hl 3 rfl) ?_
  refine z_ci cx hp (fun o' hx => zrunV (n := 1) (As := [.int (ii a1), .int (ii a2), .int (ii a3)]) (rest := [.ref (B + (a0 + 3))]) cx hp (mX0_spot F l g B h a0 a1 a2 a3 ra0 ra1 ra2 ra3 o' hx) 0 ra0 (by decide) rfl vw_X0_spot ml_X0_61 (by decide) rfl hl.1 rfl (Nat.le_of_ble_eq_true rfl) dX0_value_8) hf (fun r1 h H locs rr1 hp hf => ?_)
  refine z_iald cx hp (zs_0_5 a0 (kt_lt ra0 (by decide)) ra0) rr1 dX0_value_11 hf (fun x2 rx2 hf => ?_)
  rw [hQ]; exact z_iret cx hp rx2 dX0_value_12 hf
theorem dX0_hasElement_0 : decode cX0_hasElement 0 = .ok (.iload_n 1, 1) := by decide +kernel
theorem dX0_hasElement_1 : decode cX0_hasElement 1 = .ok (.ifCond .lt 15, 3) := by decide +kernel
theorem dX0_hasElement_4 : decode cX0_hasElement 4 = .ok (.iload_n 1, 1) := by decide +kernel
theorem dX0_hasElement_5 : decode cX0_hasElement 5 = .ok (.aload_n 0, 1) := by decide +kernel
theorem dX0_hasElement_6 : decode cX0_hasElement 6 = .ok (.getfield 21, 3) := by decide +kernel
theorem dX0_hasElement_9 : decode cX0_hasElement 9 = .ok (.if_icmp .ge 7, 3) := by decide +kernel
theorem dX0_hasElement_12 : decode cX0_hasElement 12 = .ok (.iconst 1, 1) := by decide +kernel
theorem dX0_hasElement_13 : decode cX0_hasElement 13 = .ok (.goto 4, 3) := by decide +kernel
theorem dX0_hasElement_16 : decode cX0_hasElement 16 = .ok (.iconst 0, 1) := by decide +kernel
theorem dX0_hasElement_17 : decode cX0_hasElement 17 = .ok (.ireturn, 1) := by decide +kernel
def fX0_hasElement (F : Nat) (a0 : Nat) (a1 : Int) (h : HF) : RO :=
  zjn (fun (y17_0 : Int) (h : HF) => (
    zrz y17_0 h
  )) fun j17 =>
  zjn (fun  (h : HF) => (
    j17 0 h
  )) fun j16 =>
  if a1 < 0 then (
    j16  h
  ) else (
    zgf h a0 0 fun x1 =>
    if a1 < x1 then (
      j17 1 h
    ) else (
      j16  h
    )
  )
set_option maxHeartbeats 4000000 in
set_option maxRecDepth 100000 in
theorem mX0_hasElement (F : Nat) (l : Launch) (g : zG) (B : Nat) (h : HF) (a0 : Nat) (a1 : Int) (ra0 : kt a0 = 3) (ra1 : rng a1) : CTi l g B yX0_hasElement cX0_hasElement 2 (some .boolean) 0 [.ref (B + a0), .int (ii a1)] h (fX0_hasElement F a0 a1 h) := by
  refine z_enterI (by decide) rfl (Nat.le_of_ble_eq_true rfl) ?_
  intro p e s m args below meth c ls o Q cx hp hl hf hQ
  have hl : lv_has ls 2 [(0, .ref (B + a0)), (1, .int (ii a1))] := hl
  unfold fX0_hasElement at hf
  refine lv_iload_n cx.1 cx.2.1 dX0_hasElement_0 rfl (lv_at hl 1 rfl) ?_
  refine z_jn hf (fun j => ∀ (y17_0 : Int) (h : HF) (H : Heap) (locs : List Loc) (ls : Array Slot), rng y17_0 → Hp g B s h H locs → lv_has ls 2 [] → j y17_0 h = some o → W p l e (rmn 0) s m args below meth c H locs 0 0 Q (F0 m 17 ls [.int (ii y17_0)])) ?_ (fun j17 hj17 hf => ?_)
  · intro y17_0 h H locs ls ry17_0 hp hl hf
    rw [hQ]; exact z_zret cx hp dX0_hasElement_17 hf
  refine z_jn hf (fun j => ∀  (h : HF) (H : Heap) (locs : List Loc) (ls : Array Slot), Hp g B s h H locs → lv_has ls 2 [] → j  h = some o → W p l e (rmn 0) s m args below meth c H locs 0 0 Q (F0 m 16 ls [])) ?_ (fun j16 hj16 hf => ?_)
  · intro  h H locs ls  hp hl hf
    refine z_iconst cx dX0_hasElement_16 ?_
    exact hj17 0 h _ _ ls (by decide) hp (lv_sub hl [] rfl) hf
  refine z_if_lt cx ra1 (tgt := 16) dX0_hasElement_1 (by decide) hf (fun _ hf => ?_) (fun _ hf => ?_)
  · exact hj16  h _ _ ls  hp (lv_sub hl [] rfl) hf
  · refine lv_iload_n cx.1 cx.2.1 dX0_hasElement_4 rfl (lv_at hl 1 rfl) ?_
    refine lv_aload_n cx.1 cx.2.1 dX0_hasElement_5 rfl (lv_at hl 0 rfl) ?_
    refine z_geti cx hp (T := TX0) 0 0 rfl zin_0 (by decide) (by decide) ra0 rfl fl_X0_21 dX0_hasElement_6 hf (fun x1 rx1 hf => ?_)
    refine z_icmp_ge cx ra1 rx1 (tgt := 16) dX0_hasElement_9 (by decide) hf (fun _ hf => ?_) (fun _ hf => ?_)
    · refine z_iconst cx dX0_hasElement_12 ?_
      refine lv_goto (tgt := 17) cx.1 cx.2.1 dX0_hasElement_13 (by decide) ?_
      exact hj17 1 h _ _ ls (by decide) hp (lv_sub hl [] rfl) hf
    · exact hj16  h _ _ ls  hp (lv_sub hl [] rfl) hf
theorem dX0_hasCell_0 : decode cX0_hasCell 0 = .ok (.aload_n 0, 1) := by decide +kernel
theorem dX0_hasCell_1 : decode cX0_hasCell 1 = .ok (.getfield 9, 3) := by decide +kernel
theorem dX0_hasCell_4 : decode cX0_hasCell 4 = .ok (.iload_n 1, 1) := by decide +kernel
theorem dX0_hasCell_5 : decode cX0_hasCell 5 = .ok (.iaload, 1) := by decide +kernel
theorem dX0_hasCell_6 : decode cX0_hasCell 6 = .ok (.iconst 1, 1) := by decide +kernel
theorem dX0_hasCell_7 : decode cX0_hasCell 7 = .ok (.if_icmp .lt 11, 3) := by decide +kernel
theorem dX0_hasCell_10 : decode cX0_hasCell 10 = .ok (.aload_n 0, 1) := by decide +kernel
theorem dX0_hasCell_11 : decode cX0_hasCell 11 = .ok (.iload_n 2, 1) := by decide +kernel
theorem dX0_hasCell_12 : decode cX0_hasCell 12 = .ok (.invokevirtual 65, 3) := by decide +kernel
theorem dX0_hasCell_15 : decode cX0_hasCell 15 = .ok (.ifCond .eq 25, 3) := by decide +kernel
theorem dX0_hasCell_18 : decode cX0_hasCell 18 = .ok (.aload_n 0, 1) := by decide +kernel
theorem dX0_hasCell_19 : decode cX0_hasCell 19 = .ok (.getfield 9, 3) := by decide +kernel
theorem dX0_hasCell_22 : decode cX0_hasCell 22 = .ok (.iload_n 1, 1) := by decide +kernel
theorem dX0_hasCell_23 : decode cX0_hasCell 23 = .ok (.iaload, 1) := by decide +kernel
theorem dX0_hasCell_24 : decode cX0_hasCell 24 = .ok (.iconst 2, 1) := by decide +kernel
theorem dX0_hasCell_25 : decode cX0_hasCell 25 = .ok (.if_icmp .lt 11, 3) := by decide +kernel
theorem dX0_hasCell_28 : decode cX0_hasCell 28 = .ok (.aload_n 0, 1) := by decide +kernel
theorem dX0_hasCell_29 : decode cX0_hasCell 29 = .ok (.iload_n 3, 1) := by decide +kernel
theorem dX0_hasCell_30 : decode cX0_hasCell 30 = .ok (.invokevirtual 65, 3) := by decide +kernel
theorem dX0_hasCell_33 : decode cX0_hasCell 33 = .ok (.ifCond .eq 7, 3) := by decide +kernel
theorem dX0_hasCell_40 : decode cX0_hasCell 40 = .ok (.iconst 0, 1) := by decide +kernel
theorem dX0_hasCell_36 : decode cX0_hasCell 36 = .ok (.iconst 1, 1) := by decide +kernel
theorem dX0_hasCell_37 : decode cX0_hasCell 37 = .ok (.goto 4, 3) := by decide +kernel
theorem dX0_hasCell_41 : decode cX0_hasCell 41 = .ok (.ireturn, 1) := by decide +kernel
def fX0_hasCell (F : Nat) (a0 : Nat) (a1 : Int) (a2 : Int) (a3 : Int) (h : HF) : RO :=
  zrd h (a0 + 1) a1 fun x1 =>
  zjn (fun (y41_0 : Int) (h : HF) => (
    zrz y41_0 h
  )) fun j41 =>
  zjn (fun  (h : HF) => (
    j41 0 h
  )) fun j40 =>
  zjn (fun  (h : HF) => (
    zrd h (a0 + 1) a1 fun x2 =>
    zjn (fun  (h : HF) => (
      j41 1 h
    )) fun j36 =>
    if x2 < 2 then (
      j36  h
    ) else (
      zbd (fX0_hasElement F a0 a3 h) fun r3 h =>
      if r3 = 0 then (
        j40  h
      ) else (
        j36  h
      )
    )
  )) fun j18 =>
  if x1 < 1 then (
    j18  h
  ) else (
    zbd (fX0_hasElement F a0 a2 h) fun r4 h =>
    if r4 = 0 then (
      j40  h
    ) else (
      j18  h
    )
  )
set_option maxHeartbeats 4000000 in
set_option maxRecDepth 100000 in
theorem mX0_hasCell (F : Nat) (l : Launch) (g : zG) (B : Nat) (h : HF) (a0 : Nat) (a1 : Int) (a2 : Int) (a3 : Int) (ra0 : kt a0 = 3) (ra1 : rng a1) (ra2 : rng a2) (ra3 : rng a3) : CTi l g B yX0_hasCell cX0_hasCell 4 (some .boolean) 1 [.ref (B + a0), .int (ii a1), .int (ii a2), .int (ii a3)] h (fX0_hasCell F a0 a1 a2 a3 h) := by
  refine z_enterI (by decide) rfl (Nat.le_of_ble_eq_true rfl) ?_
  intro p e s m args below meth c ls o Q cx hp hl hf hQ
  have hl : lv_has ls 4 [(0, .ref (B + a0)), (1, .int (ii a1)), (2, .int (ii a2)), (3, .int (ii a3))] := hl
  unfold fX0_hasCell at hf
  refine lv_aload_n cx.1 cx.2.1 dX0_hasCell_0 rfl (lv_at hl 0 rfl) ?_
  refine z_gets cx hp (T := TX0) 0 3 (a0 + 1) rfl zin_0 (by decide) (by decide) ra0 rfl fl_X0_9 dX0_hasCell_1 ?_
  refine lv_iload_n cx.1 cx.2.1 dX0_hasCell_4 rfl (lv_at hl 1 rfl) ?_
  refine z_iald cx hp (zs_0_3 a0 (kt_lt ra0 (by decide)) ra0) ra1 dX0_hasCell_5 hf (fun x1 rx1 hf => ?_)
  refine z_iconst cx dX0_hasCell_6 ?_
  refine z_jn hf (fun j => ∀ (y41_0 : Int) (h : HF) (H : Heap) (locs : List Loc) (ls : Array Slot), rng y41_0 → Hp g B s h H locs → lv_has ls 4 [] → j y41_0 h = some o → W p l e (rmn 1) s m args below meth c H locs 0 0 Q (F0 m 41 ls [.int (ii y41_0)])) ?_ (fun j41 hj41 hf => ?_)
  · intro y41_0 h H locs ls ry41_0 hp hl hf
    rw [hQ]; exact z_zret cx hp dX0_hasCell_41 hf
  refine z_jn hf (fun j => ∀  (h : HF) (H : Heap) (locs : List Loc) (ls : Array Slot), Hp g B s h H locs → lv_has ls 4 [] → j  h = some o → W p l e (rmn 1) s m args below meth c H locs 0 0 Q (F0 m 40 ls [])) ?_ (fun j40 hj40 hf => ?_)
  · intro  h H locs ls  hp hl hf
    refine z_iconst cx dX0_hasCell_40 ?_
    exact hj41 0 h _ _ ls (by decide) hp (lv_sub hl [] rfl) hf
  refine z_jn hf (fun j => ∀  (h : HF) (H : Heap) (locs : List Loc) (ls : Array Slot), Hp g B s h H locs → lv_has ls 4 [(0, .ref (B + a0)), (1, .int (ii a1)), (3, .int (ii a3))] → j  h = some o → W p l e (rmn 1) s m args below meth c H locs 0 0 Q (F0 m 18 ls [])) ?_ (fun j18 hj18 hf => ?_)
  · intro  h H locs ls  hp hl hf
    refine lv_aload_n cx.1 cx.2.1 dX0_hasCell_18 rfl (lv_at hl 0 rfl) ?_
    refine z_gets cx hp (T := TX0) 0 3 (a0 + 1) rfl zin_0 (by decide) (by decide) ra0 rfl fl_X0_9 dX0_hasCell_19 ?_
    refine lv_iload_n cx.1 cx.2.1 dX0_hasCell_22 rfl (lv_at hl 1 rfl) ?_
    refine z_iald cx hp (zs_0_3 a0 (kt_lt ra0 (by decide)) ra0) ra1 dX0_hasCell_23 hf (fun x2 rx2 hf => ?_)
    refine z_iconst cx dX0_hasCell_24 ?_
    refine z_jn hf (fun j => ∀  (h : HF) (H : Heap) (locs : List Loc) (ls : Array Slot), Hp g B s h H locs → lv_has ls 4 [] → j  h = some o → W p l e (rmn 1) s m args below meth c H locs 0 0 Q (F0 m 36 ls [])) ?_ (fun j36 hj36 hf => ?_)
    · intro  h H locs ls  hp hl hf
      refine z_iconst cx dX0_hasCell_36 ?_
      refine lv_goto (tgt := 41) cx.1 cx.2.1 dX0_hasCell_37 (by decide) ?_
      exact hj41 1 h _ _ ls (by decide) hp (lv_sub hl [] rfl) hf
    refine z_icmp_lt cx rx2 (by decide) (tgt := 36) dX0_hasCell_25 (by decide) hf (fun _ hf => ?_) (fun _ hf => ?_)
    · exact hj36  h _ _ ls  hp (lv_sub hl [] rfl) hf
    · refine lv_aload_n cx.1 cx.2.1 dX0_hasCell_28 rfl (lv_at hl 0 rfl) ?_
      refine lv_iload_n cx.1 cx.2.1 dX0_hasCell_29 rfl (lv_at hl 2 rfl) ?_
      refine z_ci cx hp (fun o' hx => zrunV (n := 1) (As := [.int (ii a3)]) (rest := []) cx hp (mX0_hasElement F l g B h a0 a3 ra0 ra3 o' hx) 0 ra0 (by decide) rfl vw_X0_hasElement ml_X0_65 (by decide) rfl hl.1 rfl (Nat.le_of_ble_eq_true rfl) dX0_hasCell_30) hf (fun r3 h H locs rr3 hp hf => ?_)
      refine z_if_eq cx rr3 (tgt := 40) dX0_hasCell_33 (by decide) hf (fun _ hf => ?_) (fun _ hf => ?_)
      · exact hj40  h _ _ ls  hp (lv_sub hl [] rfl) hf
      · exact hj36  h _ _ ls  hp (lv_sub hl [] rfl) hf
  refine z_icmp_lt cx rx1 (by decide) (tgt := 18) dX0_hasCell_7 (by decide) hf (fun _ hf => ?_) (fun _ hf => ?_)
  · exact hj18  h _ _ ls  hp (lv_sub hl [0, 1, 3] rfl) hf
  · refine lv_aload_n cx.1 cx.2.1 dX0_hasCell_10 rfl (lv_at hl 0 rfl) ?_
    refine lv_iload_n cx.1 cx.2.1 dX0_hasCell_11 rfl (lv_at hl 2 rfl) ?_
    refine z_ci cx hp (fun o' hx => zrunV (n := 1) (As := [.int (ii a2)]) (rest := []) cx hp (mX0_hasElement F l g B h a0 a2 ra0 ra2 o' hx) 0 ra0 (by decide) rfl vw_X0_hasElement ml_X0_65 (by decide) rfl hl.1 rfl (Nat.le_of_ble_eq_true rfl) dX0_hasCell_12) hf (fun r4 h H locs rr4 hp hf => ?_)
    refine z_if_eq cx rr4 (tgt := 40) dX0_hasCell_15 (by decide) hf (fun _ hf => ?_) (fun _ hf => ?_)
    · exact hj40  h _ _ ls  hp (lv_sub hl [] rfl) hf
    · exact hj18  h _ _ ls  hp (lv_sub hl [0, 1, 3] rfl) hf
theorem dX0_otherThanZero_0 : decode cX0_otherThanZero 0 = .ok (.iconst 0, 1) := by decide +kernel
theorem dX0_otherThanZero_1 : decode cX0_otherThanZero 1 = .ok (.istore_n 1, 1) := by decide +kernel
theorem dX0_otherThanZero_2 : decode cX0_otherThanZero 2 = .ok (.iconst 0, 1) := by decide +kernel
theorem dX0_otherThanZero_3 : decode cX0_otherThanZero 3 = .ok (.istore_n 2, 1) := by decide +kernel
theorem dX0_otherThanZero_4 : decode cX0_otherThanZero 4 = .ok (.iload_n 2, 1) := by decide +kernel
theorem dX0_otherThanZero_5 : decode cX0_otherThanZero 5 = .ok (.aload_n 0, 1) := by decide +kernel
theorem dX0_otherThanZero_6 : decode cX0_otherThanZero 6 = .ok (.invokevirtual 57, 3) := by decide +kernel
theorem dX0_otherThanZero_9 : decode cX0_otherThanZero 9 = .ok (.if_icmp .ge 21, 3) := by decide +kernel
theorem dX0_otherThanZero_12 : decode cX0_otherThanZero 12 = .ok (.aload_n 0, 1) := by decide +kernel
theorem dX0_otherThanZero_13 : decode cX0_otherThanZero 13 = .ok (.getfield 18, 3) := by decide +kernel
theorem dX0_otherThanZero_16 : decode cX0_otherThanZero 16 = .ok (.iload_n 2, 1) := by decide +kernel
theorem dX0_otherThanZero_17 : decode cX0_otherThanZero 17 = .ok (.iaload, 1) := by decide +kernel
theorem dX0_otherThanZero_18 : decode cX0_otherThanZero 18 = .ok (.ifCond .eq 6, 3) := by decide +kernel
theorem dX0_otherThanZero_21 : decode cX0_otherThanZero 21 = .ok (.iinc 1 1, 3) := by decide +kernel
theorem dX0_otherThanZero_24 : decode cX0_otherThanZero 24 = .ok (.iinc 2 1, 3) := by decide +kernel
theorem dX0_otherThanZero_27 : decode cX0_otherThanZero 27 = .ok (.goto (-23), 3) := by decide +kernel
theorem dX0_otherThanZero_30 : decode cX0_otherThanZero 30 = .ok (.iload_n 1, 1) := by decide +kernel
theorem dX0_otherThanZero_31 : decode cX0_otherThanZero 31 = .ok (.ireturn, 1) := by decide +kernel
def LX0_otherThanZero_4 (F : Nat) (u0 : Nat) (k30 : Int → HF → RO) : Nat → Int → Int → HF → RO
  | 0, _, _, _ => none
  | n + 1, v1, v2, h =>
    zbd (fX0_cellCount F u0 h) fun r1 h =>
    if v2 < r1 then (
      zrd h (u0 + 3) v2 fun x2 =>
      zjn (fun (x24_1 : Int) (x24_2 : Int) (h : HF) => (
        zlet (wr (x24_2 + 1)) fun x3 =>
        LX0_otherThanZero_4 F u0 k30 n x24_1 x3 h
      )) fun j24 =>
      if x2 = 0 then (
        j24 v1 v2 h
      ) else (
        zlet (wr (v1 + 1)) fun x4 =>
        j24 x4 v2 h
      )
    ) else (
      k30 v1 h
    )
set_option maxHeartbeats 4000000 in
set_option maxRecDepth 100000 in
theorem wX0_otherThanZero_4 {p : Program} {l : Launch} {e : Env} {s : State} {m : MethodId} {args : Array Value} {below : List Frame} {meth : Method} {c : Code} {Q : State → Prop} {g : zG} {B : Nat} {o : Int × HF} (F : Nat) (cx : Cx p s m args meth c cX0_otherThanZero 3 RX0 (some .int) g B) (u0 : Nat) (ru0 : kt u0 = 3) (k30 : Int → HF → RO) (hk30 : ∀ (x1 : Int) (h : HF) (H : Heap) (locs : List Loc) (ls : Array Slot), rng x1 → Hp g B s h H locs → lv_has ls 3 [(1, .int (ii x1))] → k30 x1 h = some o → W p l e (rmn 1) s m args below meth c H locs 0 0 Q (F0 m 30 ls [])) : ∀ (n : Nat) (v1 : Int) (v2 : Int) (h : HF) (H : Heap) (locs : List Loc) (ls : Array Slot), rng v1 → rng v2 → Hp g B s h H locs → lv_has ls 3 [(0, .ref (B + u0)), (1, .int (ii v1)), (2, .int (ii v2))] → LX0_otherThanZero_4 F u0 k30 n v1 v2 h = some o → W p l e (rmn 1) s m args below meth c H locs 0 0 Q (F0 m 4 ls []) := by
  intro n
  induction n with
  | zero =>
    intro v1 v2 h H locs ls rv1 rv2 hp hl hf
    cases hf
  | succ n ih =>
    intro v1 v2 h H locs ls rv1 rv2 hp hl hf
    rw [LX0_otherThanZero_4] at hf
    refine lv_iload_n cx.1 cx.2.1 dX0_otherThanZero_4 rfl (lv_at hl 2 rfl) ?_
    refine lv_aload_n cx.1 cx.2.1 dX0_otherThanZero_5 rfl (lv_at hl 0 rfl) ?_
    refine z_ci cx hp (fun o' hx => zrunV (n := 1) (As := []) (rest := [.int (ii v2)]) cx hp (mX0_cellCount F l g B h u0 ru0 o' hx) 0 ru0 (by decide) rfl vw_X0_cellCount ml_X0_57 (by decide) rfl hl.1 rfl (Nat.le_of_ble_eq_true rfl) dX0_otherThanZero_6) hf (fun r1 h H locs rr1 hp hf => ?_)
    refine z_icmp_ge cx rv2 rr1 (tgt := 30) dX0_otherThanZero_9 (by decide) hf (fun _ hf => ?_) (fun _ hf => ?_)
    · refine lv_aload_n cx.1 cx.2.1 dX0_otherThanZero_12 rfl (lv_at hl 0 rfl) ?_
      refine z_gets cx hp (T := TX0) 0 5 (u0 + 3) rfl zin_0 (by decide) (by decide) ru0 rfl fl_X0_18 dX0_otherThanZero_13 ?_
      refine lv_iload_n cx.1 cx.2.1 dX0_otherThanZero_16 rfl (lv_at hl 2 rfl) ?_
      refine z_iald cx hp (zs_0_5 u0 (kt_lt ru0 (by decide)) ru0) rv2 dX0_otherThanZero_17 hf (fun x2 rx2 hf => ?_)
      refine z_jn hf (fun j => ∀ (x24_1 : Int) (x24_2 : Int) (h : HF) (H : Heap) (locs : List Loc) (ls : Array Slot), rng x24_1 → rng x24_2 → Hp g B s h H locs → lv_has ls 3 [(0, .ref (B + u0)), (1, .int (ii x24_1)), (2, .int (ii x24_2))] → j x24_1 x24_2 h = some o → W p l e (rmn 1) s m args below meth c H locs 0 0 Q (F0 m 24 ls [])) ?_ (fun j24 hj24 hf => ?_)
      · intro x24_1 x24_2 h H locs ls rx24_1 rx24_2 hp hl hf
        refine z_iinc cx (fun x3 => [(2, .int (ii x3)), (0, .ref (B + u0)), (1, .int (ii x24_1))]) dX0_otherThanZero_24 hl (k := 2) rfl (by decide) (fun _ => rfl) hf (fun x3 rx3 hf ls hl => ?_)
        refine lv_goto (tgt := 4) cx.1 cx.2.1 dX0_otherThanZero_27 (by decide) ?_
        exact ih x24_1 x3 h _ _ ls rx24_1 rx3 hp (lv_sub hl [1, 2, 0] rfl) hf
      refine z_if_eq cx rx2 (tgt := 24) dX0_otherThanZero_18 (by decide) hf (fun _ hf => ?_) (fun _ hf => ?_)
      · exact hj24 v1 v2 h _ _ ls rv1 rv2 hp (lv_sub hl [0, 1, 2] rfl) hf
      · refine z_iinc cx (fun x4 => [(1, .int (ii x4)), (0, .ref (B + u0)), (2, .int (ii v2))]) dX0_otherThanZero_21 hl (k := 1) rfl (by decide) (fun _ => rfl) hf (fun x4 rx4 hf ls hl => ?_)
        exact hj24 x4 v2 h _ _ ls rx4 rv2 hp (lv_sub hl [1, 0, 2] rfl) hf
    · exact hk30 v1 h _ _ ls rv1 hp (lv_sub hl [1] rfl) hf
def fX0_otherThanZero (F : Nat) (a0 : Nat) (h : HF) : RO :=
  zjn (fun (x30_1 : Int) (h : HF) => (
    some (x30_1, h)
  )) fun j30 =>
  LX0_otherThanZero_4 F a0 j30 F 0 0 h
set_option maxHeartbeats 4000000 in
set_option maxRecDepth 100000 in
theorem mX0_otherThanZero (F : Nat) (l : Launch) (g : zG) (B : Nat) (h : HF) (a0 : Nat) (ra0 : kt a0 = 3) : CTi l g B yX0_otherThanZero cX0_otherThanZero 3 (some .int) 1 [.ref (B + a0)] h (fX0_otherThanZero F a0 h) := by
  refine z_enterI (by decide) rfl (Nat.le_of_ble_eq_true rfl) ?_
  intro p e s m args below meth c ls o Q cx hp hl hf hQ
  have hl : lv_has ls 3 [(0, .ref (B + a0))] := hl
  unfold fX0_otherThanZero at hf
  refine z_iconst cx dX0_otherThanZero_0 ?_
  refine lv_istore_n (lv' := [(1, .int (ii 0)), (0, .ref (B + a0))]) cx.1 cx.2.1 dX0_otherThanZero_1 rfl hl (by decide) rfl (fun ls hl => ?_)
  refine z_iconst cx dX0_otherThanZero_2 ?_
  refine lv_istore_n (lv' := [(2, .int (ii 0)), (1, .int (ii 0)), (0, .ref (B + a0))]) cx.1 cx.2.1 dX0_otherThanZero_3 rfl hl (by decide) rfl (fun ls hl => ?_)
  refine z_jn hf (fun j => ∀ (x30_1 : Int) (h : HF) (H : Heap) (locs : List Loc) (ls : Array Slot), rng x30_1 → Hp g B s h H locs → lv_has ls 3 [(1, .int (ii x30_1))] → j x30_1 h = some o → W p l e (rmn 1) s m args below meth c H locs 0 0 Q (F0 m 30 ls [])) ?_ (fun j30 hj30 hf => ?_)
  · intro x30_1 h H locs ls rx30_1 hp hl hf
    refine lv_iload_n cx.1 cx.2.1 dX0_otherThanZero_30 rfl (lv_at hl 0 rfl) ?_
    rw [hQ]; exact z_iret cx hp rx30_1 dX0_otherThanZero_31 hf
  exact wX0_otherThanZero_4 F cx a0 ra0 j30 hj30 F 0 0 h _ _ ls (by decide) (by decide) hp (lv_sub hl [2, 1, 0] rfl) hf
theorem dX0_hasLineOf_0 : decode cX0_hasLineOf 0 = .ok (.aload_n 0, 1) := by decide +kernel
theorem dX0_hasLineOf_1 : decode cX0_hasLineOf 1 = .ok (.invokevirtual 57, 3) := by decide +kernel
theorem dX0_hasLineOf_4 : decode cX0_hasLineOf 4 = .ok (.aload_n 1, 1) := by decide +kernel
theorem dX0_hasLineOf_5 : decode cX0_hasLineOf 5 = .ok (.invokevirtual 57, 3) := by decide +kernel
theorem dX0_hasLineOf_8 : decode cX0_hasLineOf 8 = .ok (.if_icmp .eq 5, 3) := by decide +kernel
theorem dX0_hasLineOf_11 : decode cX0_hasLineOf 11 = .ok (.iconst 0, 1) := by decide +kernel
theorem dX0_hasLineOf_12 : decode cX0_hasLineOf 12 = .ok (.ireturn, 1) := by decide +kernel
theorem dX0_hasLineOf_13 : decode cX0_hasLineOf 13 = .ok (.iconst 0, 1) := by decide +kernel
theorem dX0_hasLineOf_14 : decode cX0_hasLineOf 14 = .ok (.istore_n 2, 1) := by decide +kernel
theorem dX0_hasLineOf_15 : decode cX0_hasLineOf 15 = .ok (.iload_n 2, 1) := by decide +kernel
theorem dX0_hasLineOf_16 : decode cX0_hasLineOf 16 = .ok (.aload_n 0, 1) := by decide +kernel
theorem dX0_hasLineOf_17 : decode cX0_hasLineOf 17 = .ok (.invokevirtual 57, 3) := by decide +kernel
theorem dX0_hasLineOf_20 : decode cX0_hasLineOf 20 = .ok (.if_icmp .ge 26, 3) := by decide +kernel
theorem dX0_hasLineOf_23 : decode cX0_hasLineOf 23 = .ok (.aload_n 0, 1) := by decide +kernel
theorem dX0_hasLineOf_24 : decode cX0_hasLineOf 24 = .ok (.getfield 18, 3) := by decide +kernel
theorem dX0_hasLineOf_27 : decode cX0_hasLineOf 27 = .ok (.iload_n 2, 1) := by decide +kernel
theorem dX0_hasLineOf_28 : decode cX0_hasLineOf 28 = .ok (.iaload, 1) := by decide +kernel
theorem dX0_hasLineOf_29 : decode cX0_hasLineOf 29 = .ok (.aload_n 1, 1) := by decide +kernel
theorem dX0_hasLineOf_30 : decode cX0_hasLineOf 30 = .ok (.getfield 18, 3) := by decide +kernel
theorem dX0_hasLineOf_33 : decode cX0_hasLineOf 33 = .ok (.iload_n 2, 1) := by decide +kernel
theorem dX0_hasLineOf_34 : decode cX0_hasLineOf 34 = .ok (.iaload, 1) := by decide +kernel
theorem dX0_hasLineOf_35 : decode cX0_hasLineOf 35 = .ok (.if_icmp .eq 5, 3) := by decide +kernel
theorem dX0_hasLineOf_38 : decode cX0_hasLineOf 38 = .ok (.iconst 0, 1) := by decide +kernel
theorem dX0_hasLineOf_39 : decode cX0_hasLineOf 39 = .ok (.ireturn, 1) := by decide +kernel
theorem dX0_hasLineOf_40 : decode cX0_hasLineOf 40 = .ok (.iinc 2 1, 3) := by decide +kernel
theorem dX0_hasLineOf_43 : decode cX0_hasLineOf 43 = .ok (.goto (-28), 3) := by decide +kernel
theorem dX0_hasLineOf_46 : decode cX0_hasLineOf 46 = .ok (.iconst 1, 1) := by decide +kernel
theorem dX0_hasLineOf_47 : decode cX0_hasLineOf 47 = .ok (.ireturn, 1) := by decide +kernel
def LX0_hasLineOf_15 (F : Nat) (u0 : Nat) (u1 : Nat) (k46 : HF → RO) (k38 : HF → RO) : Nat → Int → HF → RO
  | 0, _, _ => none
  | n + 1, v2, h =>
    zbd (fX0_cellCount F u0 h) fun r3 h =>
    if v2 < r3 then (
      zrd h (u0 + 3) v2 fun x4 =>
      zrd h (u1 + 3) v2 fun x5 =>
      if x4 = x5 then (
        zlet (wr (v2 + 1)) fun x6 =>
        LX0_hasLineOf_15 F u0 u1 k46 k38 n x6 h
      ) else (
        k38  h
      )
    ) else (
      k46  h
    )
set_option maxHeartbeats 4000000 in
set_option maxRecDepth 100000 in
theorem wX0_hasLineOf_15 {p : Program} {l : Launch} {e : Env} {s : State} {m : MethodId} {args : Array Value} {below : List Frame} {meth : Method} {c : Code} {Q : State → Prop} {g : zG} {B : Nat} {o : Int × HF} (F : Nat) (cx : Cx p s m args meth c cX0_hasLineOf 3 RX0 (some .boolean) g B) (u0 : Nat) (ru0 : kt u0 = 3) (u1 : Nat) (ru1 : kt u1 = 3) (k46 : HF → RO) (hk46 : ∀  (h : HF) (H : Heap) (locs : List Loc) (ls : Array Slot), Hp g B s h H locs → lv_has ls 3 [] → k46  h = some o → W p l e (rmn 1) s m args below meth c H locs 0 0 Q (F0 m 46 ls [])) (k38 : HF → RO) (hk38 : ∀  (h : HF) (H : Heap) (locs : List Loc) (ls : Array Slot), Hp g B s h H locs → lv_has ls 3 [] → k38  h = some o → W p l e (rmn 1) s m args below meth c H locs 0 0 Q (F0 m 38 ls [])) : ∀ (n : Nat) (v2 : Int) (h : HF) (H : Heap) (locs : List Loc) (ls : Array Slot), rng v2 → Hp g B s h H locs → lv_has ls 3 [(0, .ref (B + u0)), (1, .ref (B + u1)), (2, .int (ii v2))] → LX0_hasLineOf_15 F u0 u1 k46 k38 n v2 h = some o → W p l e (rmn 1) s m args below meth c H locs 0 0 Q (F0 m 15 ls []) := by
  intro n
  induction n with
  | zero =>
    intro v2 h H locs ls rv2 hp hl hf
    cases hf
  | succ n ih =>
    intro v2 h H locs ls rv2 hp hl hf
    rw [LX0_hasLineOf_15] at hf
    refine lv_iload_n cx.1 cx.2.1 dX0_hasLineOf_15 rfl (lv_at hl 2 rfl) ?_
    refine lv_aload_n cx.1 cx.2.1 dX0_hasLineOf_16 rfl (lv_at hl 0 rfl) ?_
    refine z_ci cx hp (fun o' hx => zrunV (n := 1) (As := []) (rest := [.int (ii v2)]) cx hp (mX0_cellCount F l g B h u0 ru0 o' hx) 0 ru0 (by decide) rfl vw_X0_cellCount ml_X0_57 (by decide) rfl hl.1 rfl (Nat.le_of_ble_eq_true rfl) dX0_hasLineOf_17) hf (fun r3 h H locs rr3 hp hf => ?_)
    refine z_icmp_ge cx rv2 rr3 (tgt := 46) dX0_hasLineOf_20 (by decide) hf (fun _ hf => ?_) (fun _ hf => ?_)
    · refine lv_aload_n cx.1 cx.2.1 dX0_hasLineOf_23 rfl (lv_at hl 0 rfl) ?_
      refine z_gets cx hp (T := TX0) 0 5 (u0 + 3) rfl zin_0 (by decide) (by decide) ru0 rfl fl_X0_18 dX0_hasLineOf_24 ?_
      refine lv_iload_n cx.1 cx.2.1 dX0_hasLineOf_27 rfl (lv_at hl 2 rfl) ?_
      refine z_iald cx hp (zs_0_5 u0 (kt_lt ru0 (by decide)) ru0) rv2 dX0_hasLineOf_28 hf (fun x4 rx4 hf => ?_)
      refine lv_aload_n cx.1 cx.2.1 dX0_hasLineOf_29 rfl (lv_at hl 1 rfl) ?_
      refine z_gets cx hp (T := TX0) 0 5 (u1 + 3) rfl zin_0 (by decide) (by decide) ru1 rfl fl_X0_18 dX0_hasLineOf_30 ?_
      refine lv_iload_n cx.1 cx.2.1 dX0_hasLineOf_33 rfl (lv_at hl 2 rfl) ?_
      refine z_iald cx hp (zs_0_5 u1 (kt_lt ru1 (by decide)) ru1) rv2 dX0_hasLineOf_34 hf (fun x5 rx5 hf => ?_)
      refine z_icmp_eq cx rx4 rx5 (tgt := 40) dX0_hasLineOf_35 (by decide) hf (fun _ hf => ?_) (fun _ hf => ?_)
      · refine z_iinc cx (fun x6 => [(2, .int (ii x6)), (0, .ref (B + u0)), (1, .ref (B + u1))]) dX0_hasLineOf_40 hl (k := 2) rfl (by decide) (fun _ => rfl) hf (fun x6 rx6 hf ls hl => ?_)
        refine lv_goto (tgt := 15) cx.1 cx.2.1 dX0_hasLineOf_43 (by decide) ?_
        exact ih x6 h _ _ ls rx6 hp (lv_sub hl [1, 2, 0] rfl) hf
      · exact hk38  h _ _ ls  hp (lv_sub hl [] rfl) hf
    · exact hk46  h _ _ ls  hp (lv_sub hl [] rfl) hf
def fX0_hasLineOf (F : Nat) (a0 : Nat) (a1 : Nat) (h : HF) : RO :=
  zbd (fX0_cellCount F a0 h) fun r1 h =>
  zbd (fX0_cellCount F a1 h) fun r2 h =>
  if r1 = r2 then (
    zjn (fun  (h : HF) => (
      zrz 1 h
    )) fun j46 =>
    zjn (fun  (h : HF) => (
      zrz 0 h
    )) fun j38 =>
    LX0_hasLineOf_15 F a0 a1 j46 j38 F 0 h
  ) else (
    zrz 0 h
  )
set_option maxHeartbeats 4000000 in
set_option maxRecDepth 100000 in
theorem mX0_hasLineOf (F : Nat) (l : Launch) (g : zG) (B : Nat) (h : HF) (a0 : Nat) (a1 : Nat) (ra0 : kt a0 = 3) (ra1 : kt a1 = 3) : CTi l g B yX0_hasLineOf cX0_hasLineOf 3 (some .boolean) 1 [.ref (B + a0), .ref (B + a1)] h (fX0_hasLineOf F a0 a1 h) := by
  refine z_enterI (by decide) rfl (Nat.le_of_ble_eq_true rfl) ?_
  intro p e s m args below meth c ls o Q cx hp hl hf hQ
  have hl : lv_has ls 3 [(0, .ref (B + a0)), (1, .ref (B + a1))] := hl
  unfold fX0_hasLineOf at hf
  refine lv_aload_n cx.1 cx.2.1 dX0_hasLineOf_0 rfl (lv_at hl 0 rfl) ?_
  refine z_ci cx hp (fun o' hx => zrunV (n := 1) (As := []) (rest := []) cx hp (mX0_cellCount F l g B h a0 ra0 o' hx) 0 ra0 (by decide) rfl vw_X0_cellCount ml_X0_57 (by decide) rfl hl.1 rfl (Nat.le_of_ble_eq_true rfl) dX0_hasLineOf_1) hf (fun r1 h H locs rr1 hp hf => ?_)
  refine lv_aload_n cx.1 cx.2.1 dX0_hasLineOf_4 rfl (lv_at hl 1 rfl) ?_
  refine z_ci cx hp (fun o' hx => zrunV (n := 1) (As := []) (rest := [.int (ii r1)]) cx hp (mX0_cellCount F l g B h a1 ra1 o' hx) 0 ra1 (by decide) rfl vw_X0_cellCount ml_X0_57 (by decide) rfl hl.1 rfl (Nat.le_of_ble_eq_true rfl) dX0_hasLineOf_5) hf (fun r2 h H locs rr2 hp hf => ?_)
  refine z_icmp_eq cx rr1 rr2 (tgt := 13) dX0_hasLineOf_8 (by decide) hf (fun _ hf => ?_) (fun _ hf => ?_)
  · refine z_iconst cx dX0_hasLineOf_13 ?_
    refine lv_istore_n (lv' := [(2, .int (ii 0)), (0, .ref (B + a0)), (1, .ref (B + a1))]) cx.1 cx.2.1 dX0_hasLineOf_14 rfl hl (by decide) rfl (fun ls hl => ?_)
    refine z_jn hf (fun j => ∀  (h : HF) (H : Heap) (locs : List Loc) (ls : Array Slot), Hp g B s h H locs → lv_has ls 3 [] → j  h = some o → W p l e (rmn 1) s m args below meth c H locs 0 0 Q (F0 m 46 ls [])) ?_ (fun j46 hj46 hf => ?_)
    · intro  h H locs ls  hp hl hf
      refine z_iconst cx dX0_hasLineOf_46 ?_
      rw [hQ]; exact z_zret cx hp dX0_hasLineOf_47 hf
    refine z_jn hf (fun j => ∀  (h : HF) (H : Heap) (locs : List Loc) (ls : Array Slot), Hp g B s h H locs → lv_has ls 3 [] → j  h = some o → W p l e (rmn 1) s m args below meth c H locs 0 0 Q (F0 m 38 ls [])) ?_ (fun j38 hj38 hf => ?_)
    · intro  h H locs ls  hp hl hf
      refine z_iconst cx dX0_hasLineOf_38 ?_
      rw [hQ]; exact z_zret cx hp dX0_hasLineOf_39 hf
    exact wX0_hasLineOf_15 F cx a0 ra0 a1 ra1 j46 hj46 j38 hj38 F 0 h _ _ ls (by decide) hp (lv_sub hl [1, 2, 0] rfl) hf
  · refine z_iconst cx dX0_hasLineOf_11 ?_
    rw [hQ]; exact z_zret cx hp dX0_hasLineOf_12 hf
theorem dX0_hasManyTables_0 : decode cX0_hasManyTables 0 = .ok (.iconst 1, 1) := by decide +kernel
theorem dX0_hasManyTables_1 : decode cX0_hasManyTables 1 = .ok (.istore_n 1, 1) := by decide +kernel
theorem dX0_hasManyTables_2 : decode cX0_hasManyTables 2 = .ok (.iconst 0, 1) := by decide +kernel
theorem dX0_hasManyTables_3 : decode cX0_hasManyTables 3 = .ok (.istore_n 2, 1) := by decide +kernel
theorem dX0_hasManyTables_4 : decode cX0_hasManyTables 4 = .ok (.iload_n 2, 1) := by decide +kernel
theorem dX0_hasManyTables_5 : decode cX0_hasManyTables 5 = .ok (.aload_n 0, 1) := by decide +kernel
theorem dX0_hasManyTables_6 : decode cX0_hasManyTables 6 = .ok (.invokevirtual 57, 3) := by decide +kernel
theorem dX0_hasManyTables_9 : decode cX0_hasManyTables 9 = .ok (.if_icmp .ge 24, 3) := by decide +kernel
theorem dX0_hasManyTables_12 : decode cX0_hasManyTables 12 = .ok (.iload_n 1, 1) := by decide +kernel
theorem dX0_hasManyTables_13 : decode cX0_hasManyTables 13 = .ok (.aload_n 0, 1) := by decide +kernel
theorem dX0_hasManyTables_14 : decode cX0_hasManyTables 14 = .ok (.getfield 21, 3) := by decide +kernel
theorem dX0_hasManyTables_17 : decode cX0_hasManyTables 17 = .ok (.imul, 1) := by decide +kernel
theorem dX0_hasManyTables_18 : decode cX0_hasManyTables 18 = .ok (.istore_n 1, 1) := by decide +kernel
theorem dX0_hasManyTables_19 : decode cX0_hasManyTables 19 = .ok (.iload_n 1, 1) := by decide +kernel
theorem dX0_hasManyTables_20 : decode cX0_hasManyTables 20 = .ok (.ldc 69, 2) := by decide +kernel
theorem dX0_hasManyTables_22 : decode cX0_hasManyTables 22 = .ok (.if_icmp .le 5, 3) := by decide +kernel
theorem dX0_hasManyTables_25 : decode cX0_hasManyTables 25 = .ok (.iconst 1, 1) := by decide +kernel
theorem dX0_hasManyTables_26 : decode cX0_hasManyTables 26 = .ok (.ireturn, 1) := by decide +kernel
theorem dX0_hasManyTables_27 : decode cX0_hasManyTables 27 = .ok (.iinc 2 1, 3) := by decide +kernel
theorem dX0_hasManyTables_30 : decode cX0_hasManyTables 30 = .ok (.goto (-26), 3) := by decide +kernel
theorem dX0_hasManyTables_33 : decode cX0_hasManyTables 33 = .ok (.iconst 0, 1) := by decide +kernel
theorem dX0_hasManyTables_34 : decode cX0_hasManyTables 34 = .ok (.ireturn, 1) := by decide +kernel
def LX0_hasManyTables_4 (F : Nat) (u0 : Nat) (k33 : HF → RO) (k25 : HF → RO) : Nat → Int → Int → HF → RO
  | 0, _, _, _ => none
  | n + 1, v1, v2, h =>
    zbd (fX0_cellCount F u0 h) fun r1 h =>
    if v2 < r1 then (
      zgf h u0 0 fun x2 =>
      zlet (wr (v1 * x2)) fun x3 =>
      if 60000 < x3 then (
        k25  h
      ) else (
        zlet (wr (v2 + 1)) fun x4 =>
        LX0_hasManyTables_4 F u0 k33 k25 n x3 x4 h
      )
    ) else (
      k33  h
    )
set_option maxHeartbeats 4000000 in
set_option maxRecDepth 100000 in
theorem wX0_hasManyTables_4 {p : Program} {l : Launch} {e : Env} {s : State} {m : MethodId} {args : Array Value} {below : List Frame} {meth : Method} {c : Code} {Q : State → Prop} {g : zG} {B : Nat} {o : Int × HF} (F : Nat) (cx : Cx p s m args meth c cX0_hasManyTables 3 RX0 (some .boolean) g B) (u0 : Nat) (ru0 : kt u0 = 3) (k33 : HF → RO) (hk33 : ∀  (h : HF) (H : Heap) (locs : List Loc) (ls : Array Slot), Hp g B s h H locs → lv_has ls 3 [] → k33  h = some o → W p l e (rmn 1) s m args below meth c H locs 0 0 Q (F0 m 33 ls [])) (k25 : HF → RO) (hk25 : ∀  (h : HF) (H : Heap) (locs : List Loc) (ls : Array Slot), Hp g B s h H locs → lv_has ls 3 [] → k25  h = some o → W p l e (rmn 1) s m args below meth c H locs 0 0 Q (F0 m 25 ls [])) : ∀ (n : Nat) (v1 : Int) (v2 : Int) (h : HF) (H : Heap) (locs : List Loc) (ls : Array Slot), rng v1 → rng v2 → Hp g B s h H locs → lv_has ls 3 [(0, .ref (B + u0)), (1, .int (ii v1)), (2, .int (ii v2))] → LX0_hasManyTables_4 F u0 k33 k25 n v1 v2 h = some o → W p l e (rmn 1) s m args below meth c H locs 0 0 Q (F0 m 4 ls []) := by
  intro n
  induction n with
  | zero =>
    intro v1 v2 h H locs ls rv1 rv2 hp hl hf
    cases hf
  | succ n ih =>
    intro v1 v2 h H locs ls rv1 rv2 hp hl hf
    rw [LX0_hasManyTables_4] at hf
    refine lv_iload_n cx.1 cx.2.1 dX0_hasManyTables_4 rfl (lv_at hl 2 rfl) ?_
    refine lv_aload_n cx.1 cx.2.1 dX0_hasManyTables_5 rfl (lv_at hl 0 rfl) ?_
    refine z_ci cx hp (fun o' hx => zrunV (n := 1) (As := []) (rest := [.int (ii v2)]) cx hp (mX0_cellCount F l g B h u0 ru0 o' hx) 0 ru0 (by decide) rfl vw_X0_cellCount ml_X0_57 (by decide) rfl hl.1 rfl (Nat.le_of_ble_eq_true rfl) dX0_hasManyTables_6) hf (fun r1 h H locs rr1 hp hf => ?_)
    refine z_icmp_ge cx rv2 rr1 (tgt := 33) dX0_hasManyTables_9 (by decide) hf (fun _ hf => ?_) (fun _ hf => ?_)
    · refine lv_iload_n cx.1 cx.2.1 dX0_hasManyTables_12 rfl (lv_at hl 1 rfl) ?_
      refine lv_aload_n cx.1 cx.2.1 dX0_hasManyTables_13 rfl (lv_at hl 0 rfl) ?_
      refine z_geti cx hp (T := TX0) 0 0 rfl zin_0 (by decide) (by decide) ru0 rfl fl_X0_21 dX0_hasManyTables_14 hf (fun x2 rx2 hf => ?_)
      refine z_imul cx dX0_hasManyTables_17 ?_
      refine z_let (rng_wr _) hf (fun x3 rx3 hf => ?_)
      refine lv_istore_n (lv' := [(1, .int (ii x3)), (0, .ref (B + u0)), (2, .int (ii v2))]) cx.1 cx.2.1 dX0_hasManyTables_18 rfl hl (by decide) rfl (fun ls hl => ?_)
      refine lv_iload_n cx.1 cx.2.1 dX0_hasManyTables_19 rfl (lv_at hl 0 rfl) ?_
      refine lv_ldc (v := ii 60000) cx.1 cx.2.1 cx.2.2.2.1 (cx.2.2.2.2.1 _ (aw_m5 111 (by decide +kernel) rfl)) dX0_hasManyTables_20 ?_
      refine z_icmp_le cx rx3 (by decide) (tgt := 27) dX0_hasManyTables_22 (by decide) hf (fun _ hf => ?_) (fun _ hf => ?_)
      · exact hk25  h _ _ ls  hp (lv_sub hl [] rfl) hf
      · refine z_iinc cx (fun x4 => [(2, .int (ii x4)), (1, .int (ii x3)), (0, .ref (B + u0))]) dX0_hasManyTables_27 hl (k := 2) rfl (by decide) (fun _ => rfl) hf (fun x4 rx4 hf ls hl => ?_)
        refine lv_goto (tgt := 4) cx.1 cx.2.1 dX0_hasManyTables_30 (by decide) ?_
        exact ih x3 x4 h _ _ ls rx3 rx4 hp (lv_sub hl [2, 1, 0] rfl) hf
    · exact hk33  h _ _ ls  hp (lv_sub hl [] rfl) hf
def fX0_hasManyTables (F : Nat) (a0 : Nat) (h : HF) : RO :=
  zjn (fun  (h : HF) => (
    zrz 0 h
  )) fun j33 =>
  zjn (fun  (h : HF) => (
    zrz 1 h
  )) fun j25 =>
  LX0_hasManyTables_4 F a0 j33 j25 F 1 0 h
set_option maxHeartbeats 4000000 in
set_option maxRecDepth 100000 in
theorem mX0_hasManyTables (F : Nat) (l : Launch) (g : zG) (B : Nat) (h : HF) (a0 : Nat) (ra0 : kt a0 = 3) : CTi l g B yX0_hasManyTables cX0_hasManyTables 3 (some .boolean) 1 [.ref (B + a0)] h (fX0_hasManyTables F a0 h) := by
  refine z_enterI (by decide) rfl (Nat.le_of_ble_eq_true rfl) ?_
  intro p e s m args below meth c ls o Q cx hp hl hf hQ
  have hl : lv_has ls 3 [(0, .ref (B + a0))] := hl
  unfold fX0_hasManyTables at hf
  refine z_iconst cx dX0_hasManyTables_0 ?_
  refine lv_istore_n (lv' := [(1, .int (ii 1)), (0, .ref (B + a0))]) cx.1 cx.2.1 dX0_hasManyTables_1 rfl hl (by decide) rfl (fun ls hl => ?_)
  refine z_iconst cx dX0_hasManyTables_2 ?_
  refine lv_istore_n (lv' := [(2, .int (ii 0)), (1, .int (ii 1)), (0, .ref (B + a0))]) cx.1 cx.2.1 dX0_hasManyTables_3 rfl hl (by decide) rfl (fun ls hl => ?_)
  refine z_jn hf (fun j => ∀  (h : HF) (H : Heap) (locs : List Loc) (ls : Array Slot), Hp g B s h H locs → lv_has ls 3 [] → j  h = some o → W p l e (rmn 1) s m args below meth c H locs 0 0 Q (F0 m 33 ls [])) ?_ (fun j33 hj33 hf => ?_)
  · intro  h H locs ls  hp hl hf
    refine z_iconst cx dX0_hasManyTables_33 ?_
    rw [hQ]; exact z_zret cx hp dX0_hasManyTables_34 hf
  refine z_jn hf (fun j => ∀  (h : HF) (H : Heap) (locs : List Loc) (ls : Array Slot), Hp g B s h H locs → lv_has ls 3 [] → j  h = some o → W p l e (rmn 1) s m args below meth c H locs 0 0 Q (F0 m 25 ls [])) ?_ (fun j25 hj25 hf => ?_)
  · intro  h H locs ls  hp hl hf
    refine z_iconst cx dX0_hasManyTables_25 ?_
    rw [hQ]; exact z_zret cx hp dX0_hasManyTables_26 hf
  exact wX0_hasManyTables_4 F cx a0 ra0 j33 hj33 j25 hj25 F 1 0 h _ _ ls (by decide) (by decide) hp (lv_sub hl [2, 1, 0] rfl) hf
theorem dX0_isAssociative_0 : decode cX0_isAssociative 0 = .ok (.iconst 0, 1) := by decide +kernel
theorem dX0_isAssociative_1 : decode cX0_isAssociative 1 = .ok (.istore_n 2, 1) := by decide +kernel
theorem dX0_isAssociative_2 : decode cX0_isAssociative 2 = .ok (.iload_n 2, 1) := by decide +kernel
theorem dX0_isAssociative_3 : decode cX0_isAssociative 3 = .ok (.aload_n 0, 1) := by decide +kernel
theorem dX0_isAssociative_4 : decode cX0_isAssociative 4 = .ok (.getfield 21, 3) := by decide +kernel
theorem dX0_isAssociative_7 : decode cX0_isAssociative 7 = .ok (.if_icmp .ge 80, 3) := by decide +kernel
theorem dX0_isAssociative_10 : decode cX0_isAssociative 10 = .ok (.iconst 0, 1) := by decide +kernel
theorem dX0_isAssociative_11 : decode cX0_isAssociative 11 = .ok (.istore_n 3, 1) := by decide +kernel
theorem dX0_isAssociative_12 : decode cX0_isAssociative 12 = .ok (.iload_n 3, 1) := by decide +kernel
theorem dX0_isAssociative_13 : decode cX0_isAssociative 13 = .ok (.aload_n 0, 1) := by decide +kernel
theorem dX0_isAssociative_14 : decode cX0_isAssociative 14 = .ok (.getfield 21, 3) := by decide +kernel
theorem dX0_isAssociative_17 : decode cX0_isAssociative 17 = .ok (.if_icmp .ge 64, 3) := by decide +kernel
theorem dX0_isAssociative_20 : decode cX0_isAssociative 20 = .ok (.aload_n 0, 1) := by decide +kernel
theorem dX0_isAssociative_21 : decode cX0_isAssociative 21 = .ok (.iload_n 1, 1) := by decide +kernel
theorem dX0_isAssociative_22 : decode cX0_isAssociative 22 = .ok (.iload_n 2, 1) := by decide +kernel
theorem dX0_isAssociative_23 : decode cX0_isAssociative 23 = .ok (.iload_n 3, 1) := by decide +kernel
theorem dX0_isAssociative_24 : decode cX0_isAssociative 24 = .ok (.invokevirtual 99, 3) := by decide +kernel
theorem dX0_isAssociative_27 : decode cX0_isAssociative 27 = .ok (.istore 4, 2) := by decide +kernel
theorem dX0_isAssociative_29 : decode cX0_isAssociative 29 = .ok (.iconst 0, 1) := by decide +kernel
theorem dX0_isAssociative_30 : decode cX0_isAssociative 30 = .ok (.istore 5, 2) := by decide +kernel
theorem dX0_isAssociative_32 : decode cX0_isAssociative 32 = .ok (.iload 5, 2) := by decide +kernel
theorem dX0_isAssociative_34 : decode cX0_isAssociative 34 = .ok (.aload_n 0, 1) := by decide +kernel
theorem dX0_isAssociative_35 : decode cX0_isAssociative 35 = .ok (.getfield 21, 3) := by decide +kernel
theorem dX0_isAssociative_38 : decode cX0_isAssociative 38 = .ok (.if_icmp .ge 37, 3) := by decide +kernel
theorem dX0_isAssociative_41 : decode cX0_isAssociative 41 = .ok (.aload_n 0, 1) := by decide +kernel
theorem dX0_isAssociative_42 : decode cX0_isAssociative 42 = .ok (.iload_n 1, 1) := by decide +kernel
theorem dX0_isAssociative_43 : decode cX0_isAssociative 43 = .ok (.iload 4, 2) := by decide +kernel
theorem dX0_isAssociative_45 : decode cX0_isAssociative 45 = .ok (.iload 5, 2) := by decide +kernel
theorem dX0_isAssociative_47 : decode cX0_isAssociative 47 = .ok (.invokevirtual 99, 3) := by decide +kernel
theorem dX0_isAssociative_50 : decode cX0_isAssociative 50 = .ok (.aload_n 0, 1) := by decide +kernel
theorem dX0_isAssociative_51 : decode cX0_isAssociative 51 = .ok (.iload_n 1, 1) := by decide +kernel
theorem dX0_isAssociative_52 : decode cX0_isAssociative 52 = .ok (.iload_n 2, 1) := by decide +kernel
theorem dX0_isAssociative_53 : decode cX0_isAssociative 53 = .ok (.aload_n 0, 1) := by decide +kernel
theorem dX0_isAssociative_54 : decode cX0_isAssociative 54 = .ok (.iload_n 1, 1) := by decide +kernel
theorem dX0_isAssociative_55 : decode cX0_isAssociative 55 = .ok (.iload_n 3, 1) := by decide +kernel
theorem dX0_isAssociative_56 : decode cX0_isAssociative 56 = .ok (.iload 5, 2) := by decide +kernel
theorem dX0_isAssociative_58 : decode cX0_isAssociative 58 = .ok (.invokevirtual 99, 3) := by decide +kernel
theorem dX0_isAssociative_61 : decode cX0_isAssociative 61 = .ok (.invokevirtual 99, 3) := by decide +kernel
theorem dX0_isAssociative_64 : decode cX0_isAssociative 64 = .ok (.if_icmp .eq 5, 3) := by decide +kernel
theorem dX0_isAssociative_67 : decode cX0_isAssociative 67 = .ok (.iconst 0, 1) := by decide +kernel
theorem dX0_isAssociative_68 : decode cX0_isAssociative 68 = .ok (.ireturn, 1) := by decide +kernel
theorem dX0_isAssociative_69 : decode cX0_isAssociative 69 = .ok (.iinc 5 1, 3) := by decide +kernel
theorem dX0_isAssociative_72 : decode cX0_isAssociative 72 = .ok (.goto (-40), 3) := by decide +kernel
theorem dX0_isAssociative_75 : decode cX0_isAssociative 75 = .ok (.iinc 3 1, 3) := by decide +kernel
theorem dX0_isAssociative_78 : decode cX0_isAssociative 78 = .ok (.goto (-66), 3) := by decide +kernel
theorem dX0_isAssociative_81 : decode cX0_isAssociative 81 = .ok (.iinc 2 1, 3) := by decide +kernel
theorem dX0_isAssociative_84 : decode cX0_isAssociative 84 = .ok (.goto (-82), 3) := by decide +kernel
theorem dX0_isAssociative_87 : decode cX0_isAssociative 87 = .ok (.iconst 1, 1) := by decide +kernel
theorem dX0_isAssociative_88 : decode cX0_isAssociative 88 = .ok (.ireturn, 1) := by decide +kernel
def LX0_isAssociative_32 (F : Nat) (u0 : Nat) (u1 : Int) (u2 : Int) (u3 : Int) (u4 : Int) (k75 : Int → HF → RO) (k67 : HF → RO) : Nat → Int → HF → RO
  | 0, _, _ => none
  | n + 1, v5, h =>
    zgf h u0 0 fun x6 =>
    if v5 < x6 then (
      zbd (fX0_value F u0 u1 u4 v5 h) fun r7 h =>
      zbd (fX0_value F u0 u1 u3 v5 h) fun r8 h =>
      zbd (fX0_value F u0 u1 u2 r8 h) fun r9 h =>
      if r7 = r9 then (
        zlet (wr (v5 + 1)) fun x10 =>
        LX0_isAssociative_32 F u0 u1 u2 u3 u4 k75 k67 n x10 h
      ) else (
        k67  h
      )
    ) else (
      k75 u3 h
    )
set_option maxHeartbeats 4000000 in
set_option maxRecDepth 100000 in
theorem wX0_isAssociative_32 {p : Program} {l : Launch} {e : Env} {s : State} {m : MethodId} {args : Array Value} {below : List Frame} {meth : Method} {c : Code} {Q : State → Prop} {g : zG} {B : Nat} {o : Int × HF} (F : Nat) (cx : Cx p s m args meth c cX0_isAssociative 6 RX0 (some .boolean) g B) (u0 : Nat) (ru0 : kt u0 = 3) (u1 : Int) (ru1 : rng u1) (u2 : Int) (ru2 : rng u2) (u3 : Int) (ru3 : rng u3) (u4 : Int) (ru4 : rng u4) (k75 : Int → HF → RO) (hk75 : ∀ (x3 : Int) (h : HF) (H : Heap) (locs : List Loc) (ls : Array Slot), rng x3 → Hp g B s h H locs → lv_has ls 6 [(0, .ref (B + u0)), (1, .int (ii u1)), (2, .int (ii u2)), (3, .int (ii x3))] → k75 x3 h = some o → W p l e (rmn 2) s m args below meth c H locs 0 0 Q (F0 m 75 ls [])) (k67 : HF → RO) (hk67 : ∀  (h : HF) (H : Heap) (locs : List Loc) (ls : Array Slot), Hp g B s h H locs → lv_has ls 6 [] → k67  h = some o → W p l e (rmn 2) s m args below meth c H locs 0 0 Q (F0 m 67 ls [])) : ∀ (n : Nat) (v5 : Int) (h : HF) (H : Heap) (locs : List Loc) (ls : Array Slot), rng v5 → Hp g B s h H locs → lv_has ls 6 [(0, .ref (B + u0)), (1, .int (ii u1)), (2, .int (ii u2)), (3, .int (ii u3)), (4, .int (ii u4)), (5, .int (ii v5))] → LX0_isAssociative_32 F u0 u1 u2 u3 u4 k75 k67 n v5 h = some o → W p l e (rmn 2) s m args below meth c H locs 0 0 Q (F0 m 32 ls []) := by
  intro n
  induction n with
  | zero =>
    intro v5 h H locs ls rv5 hp hl hf
    cases hf
  | succ n ih =>
    intro v5 h H locs ls rv5 hp hl hf
    rw [LX0_isAssociative_32] at hf
    refine lv_iload cx.1 cx.2.1 dX0_isAssociative_32 (lv_at hl 5 rfl) ?_
    refine lv_aload_n cx.1 cx.2.1 dX0_isAssociative_34 rfl (lv_at hl 0 rfl) ?_
    refine z_geti cx hp (T := TX0) 0 0 rfl zin_0 (by decide) (by decide) ru0 rfl fl_X0_21 dX0_isAssociative_35 hf (fun x6 rx6 hf => ?_)
    refine z_icmp_ge cx rv5 rx6 (tgt := 75) dX0_isAssociative_38 (by decide) hf (fun _ hf => ?_) (fun _ hf => ?_)
    · refine lv_aload_n cx.1 cx.2.1 dX0_isAssociative_41 rfl (lv_at hl 0 rfl) ?_
      refine lv_iload_n cx.1 cx.2.1 dX0_isAssociative_42 rfl (lv_at hl 1 rfl) ?_
      refine lv_iload cx.1 cx.2.1 dX0_isAssociative_43 (lv_at hl 4 rfl) ?_
      refine lv_iload cx.1 cx.2.1 dX0_isAssociative_45 (lv_at hl 5 rfl) ?_
      refine z_ci cx hp (fun o' hx => zrunV (n := 2) (As := [.int (ii u1), .int (ii u4), .int (ii v5)]) (rest := []) cx hp (mX0_value F l g B h u0 u1 u4 v5 ru0 ru1 ru4 rv5 o' hx) 0 ru0 (by decide) rfl vw_X0_value ml_X0_99 (by decide) rfl hl.1 rfl (Nat.le_of_ble_eq_true rfl) dX0_isAssociative_47) hf (fun r7 h H locs rr7 hp hf => ?_)
      refine lv_aload_n cx.1 cx.2.1 dX0_isAssociative_50 rfl (lv_at hl 0 rfl) ?_
      refine lv_iload_n cx.1 cx.2.1 dX0_isAssociative_51 rfl (lv_at hl 1 rfl) ?_
      refine lv_iload_n cx.1 cx.2.1 dX0_isAssociative_52 rfl (lv_at hl 2 rfl) ?_
      refine lv_aload_n cx.1 cx.2.1 dX0_isAssociative_53 rfl (lv_at hl 0 rfl) ?_
      refine lv_iload_n cx.1 cx.2.1 dX0_isAssociative_54 rfl (lv_at hl 1 rfl) ?_
      refine lv_iload_n cx.1 cx.2.1 dX0_isAssociative_55 rfl (lv_at hl 3 rfl) ?_
      refine lv_iload cx.1 cx.2.1 dX0_isAssociative_56 (lv_at hl 5 rfl) ?_
      refine z_ci cx hp (fun o' hx => zrunV (n := 2) (As := [.int (ii u1), .int (ii u3), .int (ii v5)]) (rest := [.int (ii u2), .int (ii u1), .ref (B + u0), .int (ii r7)]) cx hp (mX0_value F l g B h u0 u1 u3 v5 ru0 ru1 ru3 rv5 o' hx) 0 ru0 (by decide) rfl vw_X0_value ml_X0_99 (by decide) rfl hl.1 rfl (Nat.le_of_ble_eq_true rfl) dX0_isAssociative_58) hf (fun r8 h H locs rr8 hp hf => ?_)
      refine z_ci cx hp (fun o' hx => zrunV (n := 2) (As := [.int (ii u1), .int (ii u2), .int (ii r8)]) (rest := [.int (ii r7)]) cx hp (mX0_value F l g B h u0 u1 u2 r8 ru0 ru1 ru2 rr8 o' hx) 0 ru0 (by decide) rfl vw_X0_value ml_X0_99 (by decide) rfl hl.1 rfl (Nat.le_of_ble_eq_true rfl) dX0_isAssociative_61) hf (fun r9 h H locs rr9 hp hf => ?_)
      refine z_icmp_eq cx rr7 rr9 (tgt := 69) dX0_isAssociative_64 (by decide) hf (fun _ hf => ?_) (fun _ hf => ?_)
      · refine z_iinc cx (fun x10 => [(5, .int (ii x10)), (0, .ref (B + u0)), (1, .int (ii u1)), (2, .int (ii u2)), (3, .int (ii u3)), (4, .int (ii u4))]) dX0_isAssociative_69 hl (k := 5) rfl (by decide) (fun _ => rfl) hf (fun x10 rx10 hf ls hl => ?_)
        refine lv_goto (tgt := 32) cx.1 cx.2.1 dX0_isAssociative_72 (by decide) ?_
        exact ih x10 h _ _ ls rx10 hp (lv_sub hl [1, 2, 3, 4, 5, 0] rfl) hf
      · exact hk67  h _ _ ls  hp (lv_sub hl [] rfl) hf
    · exact hk75 u3 h _ _ ls ru3 hp (lv_sub hl [0, 1, 2, 3] rfl) hf
def LX0_isAssociative_12 (F : Nat) (u0 : Nat) (u1 : Int) (u2 : Int) (k81 : Int → HF → RO) (k67 : HF → RO) : Nat → Int → HF → RO
  | 0, _, _ => none
  | n + 1, v3, h =>
    zgf h u0 0 fun x3 =>
    if v3 < x3 then (
      zbd (fX0_value F u0 u1 u2 v3 h) fun r4 h =>
      zjn (fun (x75_3 : Int) (h : HF) => (
        zlet (wr (x75_3 + 1)) fun x5 =>
        LX0_isAssociative_12 F u0 u1 u2 k81 k67 n x5 h
      )) fun j75 =>
      LX0_isAssociative_32 F u0 u1 u2 v3 r4 j75 k67 F 0 h
    ) else (
      k81 u2 h
    )
set_option maxHeartbeats 4000000 in
set_option maxRecDepth 100000 in
theorem wX0_isAssociative_12 {p : Program} {l : Launch} {e : Env} {s : State} {m : MethodId} {args : Array Value} {below : List Frame} {meth : Method} {c : Code} {Q : State → Prop} {g : zG} {B : Nat} {o : Int × HF} (F : Nat) (cx : Cx p s m args meth c cX0_isAssociative 6 RX0 (some .boolean) g B) (u0 : Nat) (ru0 : kt u0 = 3) (u1 : Int) (ru1 : rng u1) (u2 : Int) (ru2 : rng u2) (k81 : Int → HF → RO) (hk81 : ∀ (x2 : Int) (h : HF) (H : Heap) (locs : List Loc) (ls : Array Slot), rng x2 → Hp g B s h H locs → lv_has ls 6 [(0, .ref (B + u0)), (1, .int (ii u1)), (2, .int (ii x2))] → k81 x2 h = some o → W p l e (rmn 2) s m args below meth c H locs 0 0 Q (F0 m 81 ls [])) (k67 : HF → RO) (hk67 : ∀  (h : HF) (H : Heap) (locs : List Loc) (ls : Array Slot), Hp g B s h H locs → lv_has ls 6 [] → k67  h = some o → W p l e (rmn 2) s m args below meth c H locs 0 0 Q (F0 m 67 ls [])) : ∀ (n : Nat) (v3 : Int) (h : HF) (H : Heap) (locs : List Loc) (ls : Array Slot), rng v3 → Hp g B s h H locs → lv_has ls 6 [(0, .ref (B + u0)), (1, .int (ii u1)), (2, .int (ii u2)), (3, .int (ii v3))] → LX0_isAssociative_12 F u0 u1 u2 k81 k67 n v3 h = some o → W p l e (rmn 2) s m args below meth c H locs 0 0 Q (F0 m 12 ls []) := by
  intro n
  induction n with
  | zero =>
    intro v3 h H locs ls rv3 hp hl hf
    cases hf
  | succ n ih =>
    intro v3 h H locs ls rv3 hp hl hf
    rw [LX0_isAssociative_12] at hf
    refine lv_iload_n cx.1 cx.2.1 dX0_isAssociative_12 rfl (lv_at hl 3 rfl) ?_
    refine lv_aload_n cx.1 cx.2.1 dX0_isAssociative_13 rfl (lv_at hl 0 rfl) ?_
    refine z_geti cx hp (T := TX0) 0 0 rfl zin_0 (by decide) (by decide) ru0 rfl fl_X0_21 dX0_isAssociative_14 hf (fun x3 rx3 hf => ?_)
    refine z_icmp_ge cx rv3 rx3 (tgt := 81) dX0_isAssociative_17 (by decide) hf (fun _ hf => ?_) (fun _ hf => ?_)
    · refine lv_aload_n cx.1 cx.2.1 dX0_isAssociative_20 rfl (lv_at hl 0 rfl) ?_
      refine lv_iload_n cx.1 cx.2.1 dX0_isAssociative_21 rfl (lv_at hl 1 rfl) ?_
      refine lv_iload_n cx.1 cx.2.1 dX0_isAssociative_22 rfl (lv_at hl 2 rfl) ?_
      refine lv_iload_n cx.1 cx.2.1 dX0_isAssociative_23 rfl (lv_at hl 3 rfl) ?_
      refine z_ci cx hp (fun o' hx => zrunV (n := 2) (As := [.int (ii u1), .int (ii u2), .int (ii v3)]) (rest := []) cx hp (mX0_value F l g B h u0 u1 u2 v3 ru0 ru1 ru2 rv3 o' hx) 0 ru0 (by decide) rfl vw_X0_value ml_X0_99 (by decide) rfl hl.1 rfl (Nat.le_of_ble_eq_true rfl) dX0_isAssociative_24) hf (fun r4 h H locs rr4 hp hf => ?_)
      refine lv_istore (lv' := [(4, .int (ii r4)), (0, .ref (B + u0)), (1, .int (ii u1)), (2, .int (ii u2)), (3, .int (ii v3))]) cx.1 cx.2.1 dX0_isAssociative_27 hl (by decide) rfl (fun ls hl => ?_)
      refine z_iconst cx dX0_isAssociative_29 ?_
      refine lv_istore (lv' := [(5, .int (ii 0)), (4, .int (ii r4)), (0, .ref (B + u0)), (1, .int (ii u1)), (2, .int (ii u2)), (3, .int (ii v3))]) cx.1 cx.2.1 dX0_isAssociative_30 hl (by decide) rfl (fun ls hl => ?_)
      refine z_jn hf (fun j => ∀ (x75_3 : Int) (h : HF) (H : Heap) (locs : List Loc) (ls : Array Slot), rng x75_3 → Hp g B s h H locs → lv_has ls 6 [(0, .ref (B + u0)), (1, .int (ii u1)), (2, .int (ii u2)), (3, .int (ii x75_3))] → j x75_3 h = some o → W p l e (rmn 2) s m args below meth c H locs 0 0 Q (F0 m 75 ls [])) ?_ (fun j75 hj75 hf => ?_)
      · intro x75_3 h H locs ls rx75_3 hp hl hf
        refine z_iinc cx (fun x5 => [(3, .int (ii x5)), (0, .ref (B + u0)), (1, .int (ii u1)), (2, .int (ii u2))]) dX0_isAssociative_75 hl (k := 3) rfl (by decide) (fun _ => rfl) hf (fun x5 rx5 hf ls hl => ?_)
        refine lv_goto (tgt := 12) cx.1 cx.2.1 dX0_isAssociative_78 (by decide) ?_
        exact ih x5 h _ _ ls rx5 hp (lv_sub hl [1, 2, 3, 0] rfl) hf
      exact wX0_isAssociative_32 F cx u0 ru0 u1 ru1 u2 ru2 v3 rv3 r4 rr4 j75 hj75 k67 hk67 F 0 h _ _ ls (by decide) hp (lv_sub hl [2, 3, 4, 5, 1, 0] rfl) hf
    · exact hk81 u2 h _ _ ls ru2 hp (lv_sub hl [0, 1, 2] rfl) hf
def LX0_isAssociative_2 (F : Nat) (u0 : Nat) (u1 : Int) (k87 : HF → RO) (k67 : HF → RO) : Nat → Int → HF → RO
  | 0, _, _ => none
  | n + 1, v2, h =>
    zgf h u0 0 fun x1 =>
    if v2 < x1 then (
      zjn (fun (x81_2 : Int) (h : HF) => (
        zlet (wr (x81_2 + 1)) fun x2 =>
        LX0_isAssociative_2 F u0 u1 k87 k67 n x2 h
      )) fun j81 =>
      LX0_isAssociative_12 F u0 u1 v2 j81 k67 F 0 h
    ) else (
      k87  h
    )
set_option maxHeartbeats 4000000 in
set_option maxRecDepth 100000 in
theorem wX0_isAssociative_2 {p : Program} {l : Launch} {e : Env} {s : State} {m : MethodId} {args : Array Value} {below : List Frame} {meth : Method} {c : Code} {Q : State → Prop} {g : zG} {B : Nat} {o : Int × HF} (F : Nat) (cx : Cx p s m args meth c cX0_isAssociative 6 RX0 (some .boolean) g B) (u0 : Nat) (ru0 : kt u0 = 3) (u1 : Int) (ru1 : rng u1) (k87 : HF → RO) (hk87 : ∀  (h : HF) (H : Heap) (locs : List Loc) (ls : Array Slot), Hp g B s h H locs → lv_has ls 6 [] → k87  h = some o → W p l e (rmn 2) s m args below meth c H locs 0 0 Q (F0 m 87 ls [])) (k67 : HF → RO) (hk67 : ∀  (h : HF) (H : Heap) (locs : List Loc) (ls : Array Slot), Hp g B s h H locs → lv_has ls 6 [] → k67  h = some o → W p l e (rmn 2) s m args below meth c H locs 0 0 Q (F0 m 67 ls [])) : ∀ (n : Nat) (v2 : Int) (h : HF) (H : Heap) (locs : List Loc) (ls : Array Slot), rng v2 → Hp g B s h H locs → lv_has ls 6 [(0, .ref (B + u0)), (1, .int (ii u1)), (2, .int (ii v2))] → LX0_isAssociative_2 F u0 u1 k87 k67 n v2 h = some o → W p l e (rmn 2) s m args below meth c H locs 0 0 Q (F0 m 2 ls []) := by
  intro n
  induction n with
  | zero =>
    intro v2 h H locs ls rv2 hp hl hf
    cases hf
  | succ n ih =>
    intro v2 h H locs ls rv2 hp hl hf
    rw [LX0_isAssociative_2] at hf
    refine lv_iload_n cx.1 cx.2.1 dX0_isAssociative_2 rfl (lv_at hl 2 rfl) ?_
    refine lv_aload_n cx.1 cx.2.1 dX0_isAssociative_3 rfl (lv_at hl 0 rfl) ?_
    refine z_geti cx hp (T := TX0) 0 0 rfl zin_0 (by decide) (by decide) ru0 rfl fl_X0_21 dX0_isAssociative_4 hf (fun x1 rx1 hf => ?_)
    refine z_icmp_ge cx rv2 rx1 (tgt := 87) dX0_isAssociative_7 (by decide) hf (fun _ hf => ?_) (fun _ hf => ?_)
    · refine z_iconst cx dX0_isAssociative_10 ?_
      refine lv_istore_n (lv' := [(3, .int (ii 0)), (0, .ref (B + u0)), (1, .int (ii u1)), (2, .int (ii v2))]) cx.1 cx.2.1 dX0_isAssociative_11 rfl hl (by decide) rfl (fun ls hl => ?_)
      refine z_jn hf (fun j => ∀ (x81_2 : Int) (h : HF) (H : Heap) (locs : List Loc) (ls : Array Slot), rng x81_2 → Hp g B s h H locs → lv_has ls 6 [(0, .ref (B + u0)), (1, .int (ii u1)), (2, .int (ii x81_2))] → j x81_2 h = some o → W p l e (rmn 2) s m args below meth c H locs 0 0 Q (F0 m 81 ls [])) ?_ (fun j81 hj81 hf => ?_)
      · intro x81_2 h H locs ls rx81_2 hp hl hf
        refine z_iinc cx (fun x2 => [(2, .int (ii x2)), (0, .ref (B + u0)), (1, .int (ii u1))]) dX0_isAssociative_81 hl (k := 2) rfl (by decide) (fun _ => rfl) hf (fun x2 rx2 hf ls hl => ?_)
        refine lv_goto (tgt := 2) cx.1 cx.2.1 dX0_isAssociative_84 (by decide) ?_
        exact ih x2 h _ _ ls rx2 hp (lv_sub hl [1, 2, 0] rfl) hf
      exact wX0_isAssociative_12 F cx u0 ru0 u1 ru1 v2 rv2 j81 hj81 k67 hk67 F 0 h _ _ ls (by decide) hp (lv_sub hl [1, 2, 3, 0] rfl) hf
    · exact hk87  h _ _ ls  hp (lv_sub hl [] rfl) hf
def fX0_isAssociative (F : Nat) (a0 : Nat) (a1 : Int) (h : HF) : RO :=
  zjn (fun  (h : HF) => (
    zrz 1 h
  )) fun j87 =>
  zjn (fun  (h : HF) => (
    zrz 0 h
  )) fun j67 =>
  LX0_isAssociative_2 F a0 a1 j87 j67 F 0 h
set_option maxHeartbeats 4000000 in
set_option maxRecDepth 100000 in
theorem mX0_isAssociative (F : Nat) (l : Launch) (g : zG) (B : Nat) (h : HF) (a0 : Nat) (a1 : Int) (ra0 : kt a0 = 3) (ra1 : rng a1) : CTi l g B yX0_isAssociative cX0_isAssociative 6 (some .boolean) 2 [.ref (B + a0), .int (ii a1)] h (fX0_isAssociative F a0 a1 h) := by
  refine z_enterI (by decide) rfl (Nat.le_of_ble_eq_true rfl) ?_
  intro p e s m args below meth c ls o Q cx hp hl hf hQ
  have hl : lv_has ls 6 [(0, .ref (B + a0)), (1, .int (ii a1))] := hl
  unfold fX0_isAssociative at hf
  refine z_iconst cx dX0_isAssociative_0 ?_
  refine lv_istore_n (lv' := [(2, .int (ii 0)), (0, .ref (B + a0)), (1, .int (ii a1))]) cx.1 cx.2.1 dX0_isAssociative_1 rfl hl (by decide) rfl (fun ls hl => ?_)
  refine z_jn hf (fun j => ∀  (h : HF) (H : Heap) (locs : List Loc) (ls : Array Slot), Hp g B s h H locs → lv_has ls 6 [] → j  h = some o → W p l e (rmn 2) s m args below meth c H locs 0 0 Q (F0 m 87 ls [])) ?_ (fun j87 hj87 hf => ?_)
  · intro  h H locs ls  hp hl hf
    refine z_iconst cx dX0_isAssociative_87 ?_
    rw [hQ]; exact z_zret cx hp dX0_isAssociative_88 hf
  refine z_jn hf (fun j => ∀  (h : HF) (H : Heap) (locs : List Loc) (ls : Array Slot), Hp g B s h H locs → lv_has ls 6 [] → j  h = some o → W p l e (rmn 2) s m args below meth c H locs 0 0 Q (F0 m 67 ls [])) ?_ (fun j67 hj67 hf => ?_)
  · intro  h H locs ls  hp hl hf
    refine z_iconst cx dX0_isAssociative_67 ?_
    rw [hQ]; exact z_zret cx hp dX0_isAssociative_68 hf
  exact wX0_isAssociative_2 F cx a0 ra0 a1 ra1 j87 hj87 j67 hj67 F 0 h _ _ ls (by decide) hp (lv_sub hl [1, 2, 0] rfl) hf
theorem dX0_isSelfDistributive_0 : decode cX0_isSelfDistributive 0 = .ok (.iconst 0, 1) := by decide +kernel
theorem dX0_isSelfDistributive_1 : decode cX0_isSelfDistributive 1 = .ok (.istore_n 2, 1) := by decide +kernel
theorem dX0_isSelfDistributive_2 : decode cX0_isSelfDistributive 2 = .ok (.iload_n 2, 1) := by decide +kernel
theorem dX0_isSelfDistributive_3 : decode cX0_isSelfDistributive 3 = .ok (.aload_n 0, 1) := by decide +kernel
theorem dX0_isSelfDistributive_4 : decode cX0_isSelfDistributive 4 = .ok (.getfield 21, 3) := by decide +kernel
theorem dX0_isSelfDistributive_7 : decode cX0_isSelfDistributive 7 = .ok (.if_icmp .ge 86, 3) := by decide +kernel
theorem dX0_isSelfDistributive_10 : decode cX0_isSelfDistributive 10 = .ok (.iconst 0, 1) := by decide +kernel
theorem dX0_isSelfDistributive_11 : decode cX0_isSelfDistributive 11 = .ok (.istore_n 3, 1) := by decide +kernel
theorem dX0_isSelfDistributive_12 : decode cX0_isSelfDistributive 12 = .ok (.iload_n 3, 1) := by decide +kernel
theorem dX0_isSelfDistributive_13 : decode cX0_isSelfDistributive 13 = .ok (.aload_n 0, 1) := by decide +kernel
theorem dX0_isSelfDistributive_14 : decode cX0_isSelfDistributive 14 = .ok (.getfield 21, 3) := by decide +kernel
theorem dX0_isSelfDistributive_17 : decode cX0_isSelfDistributive 17 = .ok (.if_icmp .ge 70, 3) := by decide +kernel
theorem dX0_isSelfDistributive_20 : decode cX0_isSelfDistributive 20 = .ok (.aload_n 0, 1) := by decide +kernel
theorem dX0_isSelfDistributive_21 : decode cX0_isSelfDistributive 21 = .ok (.iload_n 1, 1) := by decide +kernel
theorem dX0_isSelfDistributive_22 : decode cX0_isSelfDistributive 22 = .ok (.iload_n 2, 1) := by decide +kernel
theorem dX0_isSelfDistributive_23 : decode cX0_isSelfDistributive 23 = .ok (.iload_n 3, 1) := by decide +kernel
theorem dX0_isSelfDistributive_24 : decode cX0_isSelfDistributive 24 = .ok (.invokevirtual 99, 3) := by decide +kernel
theorem dX0_isSelfDistributive_27 : decode cX0_isSelfDistributive 27 = .ok (.istore 4, 2) := by decide +kernel
theorem dX0_isSelfDistributive_29 : decode cX0_isSelfDistributive 29 = .ok (.iconst 0, 1) := by decide +kernel
theorem dX0_isSelfDistributive_30 : decode cX0_isSelfDistributive 30 = .ok (.istore 5, 2) := by decide +kernel
theorem dX0_isSelfDistributive_32 : decode cX0_isSelfDistributive 32 = .ok (.iload 5, 2) := by decide +kernel
theorem dX0_isSelfDistributive_34 : decode cX0_isSelfDistributive 34 = .ok (.aload_n 0, 1) := by decide +kernel
theorem dX0_isSelfDistributive_35 : decode cX0_isSelfDistributive 35 = .ok (.getfield 21, 3) := by decide +kernel
theorem dX0_isSelfDistributive_38 : decode cX0_isSelfDistributive 38 = .ok (.if_icmp .ge 43, 3) := by decide +kernel
theorem dX0_isSelfDistributive_41 : decode cX0_isSelfDistributive 41 = .ok (.aload_n 0, 1) := by decide +kernel
theorem dX0_isSelfDistributive_42 : decode cX0_isSelfDistributive 42 = .ok (.iload_n 1, 1) := by decide +kernel
theorem dX0_isSelfDistributive_43 : decode cX0_isSelfDistributive 43 = .ok (.iload_n 2, 1) := by decide +kernel
theorem dX0_isSelfDistributive_44 : decode cX0_isSelfDistributive 44 = .ok (.aload_n 0, 1) := by decide +kernel
theorem dX0_isSelfDistributive_45 : decode cX0_isSelfDistributive 45 = .ok (.iload_n 1, 1) := by decide +kernel
theorem dX0_isSelfDistributive_46 : decode cX0_isSelfDistributive 46 = .ok (.iload_n 3, 1) := by decide +kernel
theorem dX0_isSelfDistributive_47 : decode cX0_isSelfDistributive 47 = .ok (.iload 5, 2) := by decide +kernel
theorem dX0_isSelfDistributive_49 : decode cX0_isSelfDistributive 49 = .ok (.invokevirtual 99, 3) := by decide +kernel
theorem dX0_isSelfDistributive_52 : decode cX0_isSelfDistributive 52 = .ok (.invokevirtual 99, 3) := by decide +kernel
theorem dX0_isSelfDistributive_55 : decode cX0_isSelfDistributive 55 = .ok (.aload_n 0, 1) := by decide +kernel
theorem dX0_isSelfDistributive_56 : decode cX0_isSelfDistributive 56 = .ok (.iload_n 1, 1) := by decide +kernel
theorem dX0_isSelfDistributive_57 : decode cX0_isSelfDistributive 57 = .ok (.iload 4, 2) := by decide +kernel
theorem dX0_isSelfDistributive_59 : decode cX0_isSelfDistributive 59 = .ok (.aload_n 0, 1) := by decide +kernel
theorem dX0_isSelfDistributive_60 : decode cX0_isSelfDistributive 60 = .ok (.iload_n 1, 1) := by decide +kernel
theorem dX0_isSelfDistributive_61 : decode cX0_isSelfDistributive 61 = .ok (.iload_n 2, 1) := by decide +kernel
theorem dX0_isSelfDistributive_62 : decode cX0_isSelfDistributive 62 = .ok (.iload 5, 2) := by decide +kernel
theorem dX0_isSelfDistributive_64 : decode cX0_isSelfDistributive 64 = .ok (.invokevirtual 99, 3) := by decide +kernel
theorem dX0_isSelfDistributive_67 : decode cX0_isSelfDistributive 67 = .ok (.invokevirtual 99, 3) := by decide +kernel
theorem dX0_isSelfDistributive_70 : decode cX0_isSelfDistributive 70 = .ok (.if_icmp .eq 5, 3) := by decide +kernel
theorem dX0_isSelfDistributive_73 : decode cX0_isSelfDistributive 73 = .ok (.iconst 0, 1) := by decide +kernel
theorem dX0_isSelfDistributive_74 : decode cX0_isSelfDistributive 74 = .ok (.ireturn, 1) := by decide +kernel
theorem dX0_isSelfDistributive_75 : decode cX0_isSelfDistributive 75 = .ok (.iinc 5 1, 3) := by decide +kernel
theorem dX0_isSelfDistributive_78 : decode cX0_isSelfDistributive 78 = .ok (.goto (-46), 3) := by decide +kernel
theorem dX0_isSelfDistributive_81 : decode cX0_isSelfDistributive 81 = .ok (.iinc 3 1, 3) := by decide +kernel
theorem dX0_isSelfDistributive_84 : decode cX0_isSelfDistributive 84 = .ok (.goto (-72), 3) := by decide +kernel
theorem dX0_isSelfDistributive_87 : decode cX0_isSelfDistributive 87 = .ok (.iinc 2 1, 3) := by decide +kernel
theorem dX0_isSelfDistributive_90 : decode cX0_isSelfDistributive 90 = .ok (.goto (-88), 3) := by decide +kernel
theorem dX0_isSelfDistributive_93 : decode cX0_isSelfDistributive 93 = .ok (.iconst 1, 1) := by decide +kernel
theorem dX0_isSelfDistributive_94 : decode cX0_isSelfDistributive 94 = .ok (.ireturn, 1) := by decide +kernel
def LX0_isSelfDistributive_32 (F : Nat) (u0 : Nat) (u1 : Int) (u2 : Int) (u3 : Int) (u4 : Int) (k81 : Int → HF → RO) (k73 : HF → RO) : Nat → Int → HF → RO
  | 0, _, _ => none
  | n + 1, v5, h =>
    zgf h u0 0 fun x6 =>
    if v5 < x6 then (
      zbd (fX0_value F u0 u1 u3 v5 h) fun r7 h =>
      zbd (fX0_value F u0 u1 u2 r7 h) fun r8 h =>
      zbd (fX0_value F u0 u1 u2 v5 h) fun r9 h =>
      zbd (fX0_value F u0 u1 u4 r9 h) fun r10 h =>
      if r8 = r10 then (
        zlet (wr (v5 + 1)) fun x11 =>
        LX0_isSelfDistributive_32 F u0 u1 u2 u3 u4 k81 k73 n x11 h
      ) else (
        k73  h
      )
    ) else (
      k81 u3 h
    )
set_option maxHeartbeats 4000000 in
set_option maxRecDepth 100000 in
theorem wX0_isSelfDistributive_32 {p : Program} {l : Launch} {e : Env} {s : State} {m : MethodId} {args : Array Value} {below : List Frame} {meth : Method} {c : Code} {Q : State → Prop} {g : zG} {B : Nat} {o : Int × HF} (F : Nat) (cx : Cx p s m args meth c cX0_isSelfDistributive 6 RX0 (some .boolean) g B) (u0 : Nat) (ru0 : kt u0 = 3) (u1 : Int) (ru1 : rng u1) (u2 : Int) (ru2 : rng u2) (u3 : Int) (ru3 : rng u3) (u4 : Int) (ru4 : rng u4) (k81 : Int → HF → RO) (hk81 : ∀ (x3 : Int) (h : HF) (H : Heap) (locs : List Loc) (ls : Array Slot), rng x3 → Hp g B s h H locs → lv_has ls 6 [(0, .ref (B + u0)), (1, .int (ii u1)), (2, .int (ii u2)), (3, .int (ii x3))] → k81 x3 h = some o → W p l e (rmn 2) s m args below meth c H locs 0 0 Q (F0 m 81 ls [])) (k73 : HF → RO) (hk73 : ∀  (h : HF) (H : Heap) (locs : List Loc) (ls : Array Slot), Hp g B s h H locs → lv_has ls 6 [] → k73  h = some o → W p l e (rmn 2) s m args below meth c H locs 0 0 Q (F0 m 73 ls [])) : ∀ (n : Nat) (v5 : Int) (h : HF) (H : Heap) (locs : List Loc) (ls : Array Slot), rng v5 → Hp g B s h H locs → lv_has ls 6 [(0, .ref (B + u0)), (1, .int (ii u1)), (2, .int (ii u2)), (3, .int (ii u3)), (4, .int (ii u4)), (5, .int (ii v5))] → LX0_isSelfDistributive_32 F u0 u1 u2 u3 u4 k81 k73 n v5 h = some o → W p l e (rmn 2) s m args below meth c H locs 0 0 Q (F0 m 32 ls []) := by
  intro n
  induction n with
  | zero =>
    intro v5 h H locs ls rv5 hp hl hf
    cases hf
  | succ n ih =>
    intro v5 h H locs ls rv5 hp hl hf
    rw [LX0_isSelfDistributive_32] at hf
    refine lv_iload cx.1 cx.2.1 dX0_isSelfDistributive_32 (lv_at hl 5 rfl) ?_
    refine lv_aload_n cx.1 cx.2.1 dX0_isSelfDistributive_34 rfl (lv_at hl 0 rfl) ?_
    refine z_geti cx hp (T := TX0) 0 0 rfl zin_0 (by decide) (by decide) ru0 rfl fl_X0_21 dX0_isSelfDistributive_35 hf (fun x6 rx6 hf => ?_)
    refine z_icmp_ge cx rv5 rx6 (tgt := 81) dX0_isSelfDistributive_38 (by decide) hf (fun _ hf => ?_) (fun _ hf => ?_)
    · refine lv_aload_n cx.1 cx.2.1 dX0_isSelfDistributive_41 rfl (lv_at hl 0 rfl) ?_
      refine lv_iload_n cx.1 cx.2.1 dX0_isSelfDistributive_42 rfl (lv_at hl 1 rfl) ?_
      refine lv_iload_n cx.1 cx.2.1 dX0_isSelfDistributive_43 rfl (lv_at hl 2 rfl) ?_
      refine lv_aload_n cx.1 cx.2.1 dX0_isSelfDistributive_44 rfl (lv_at hl 0 rfl) ?_
      refine lv_iload_n cx.1 cx.2.1 dX0_isSelfDistributive_45 rfl (lv_at hl 1 rfl) ?_
      refine lv_iload_n cx.1 cx.2.1 dX0_isSelfDistributive_46 rfl (lv_at hl 3 rfl) ?_
      refine lv_iload cx.1 cx.2.1 dX0_isSelfDistributive_47 (lv_at hl 5 rfl) ?_
      refine z_ci cx hp (fun o' hx => zrunV (n := 2) (As := [.int (ii u1), .int (ii u3), .int (ii v5)]) (rest := [.int (ii u2), .int (ii u1), .ref (B + u0)]) cx hp (mX0_value F l g B h u0 u1 u3 v5 ru0 ru1 ru3 rv5 o' hx) 0 ru0 (by decide) rfl vw_X0_value ml_X0_99 (by decide) rfl hl.1 rfl (Nat.le_of_ble_eq_true rfl) dX0_isSelfDistributive_49) hf (fun r7 h H locs rr7 hp hf => ?_)
      refine z_ci cx hp (fun o' hx => zrunV (n := 2) (As := [.int (ii u1), .int (ii u2), .int (ii r7)]) (rest := []) cx hp (mX0_value F l g B h u0 u1 u2 r7 ru0 ru1 ru2 rr7 o' hx) 0 ru0 (by decide) rfl vw_X0_value ml_X0_99 (by decide) rfl hl.1 rfl (Nat.le_of_ble_eq_true rfl) dX0_isSelfDistributive_52) hf (fun r8 h H locs rr8 hp hf => ?_)
      refine lv_aload_n cx.1 cx.2.1 dX0_isSelfDistributive_55 rfl (lv_at hl 0 rfl) ?_
      refine lv_iload_n cx.1 cx.2.1 dX0_isSelfDistributive_56 rfl (lv_at hl 1 rfl) ?_
      refine lv_iload cx.1 cx.2.1 dX0_isSelfDistributive_57 (lv_at hl 4 rfl) ?_
      refine lv_aload_n cx.1 cx.2.1 dX0_isSelfDistributive_59 rfl (lv_at hl 0 rfl) ?_
      refine lv_iload_n cx.1 cx.2.1 dX0_isSelfDistributive_60 rfl (lv_at hl 1 rfl) ?_
      refine lv_iload_n cx.1 cx.2.1 dX0_isSelfDistributive_61 rfl (lv_at hl 2 rfl) ?_
      refine lv_iload cx.1 cx.2.1 dX0_isSelfDistributive_62 (lv_at hl 5 rfl) ?_
      refine z_ci cx hp (fun o' hx => zrunV (n := 2) (As := [.int (ii u1), .int (ii u2), .int (ii v5)]) (rest := [.int (ii u4), .int (ii u1), .ref (B + u0), .int (ii r8)]) cx hp (mX0_value F l g B h u0 u1 u2 v5 ru0 ru1 ru2 rv5 o' hx) 0 ru0 (by decide) rfl vw_X0_value ml_X0_99 (by decide) rfl hl.1 rfl (Nat.le_of_ble_eq_true rfl) dX0_isSelfDistributive_64) hf (fun r9 h H locs rr9 hp hf => ?_)
      refine z_ci cx hp (fun o' hx => zrunV (n := 2) (As := [.int (ii u1), .int (ii u4), .int (ii r9)]) (rest := [.int (ii r8)]) cx hp (mX0_value F l g B h u0 u1 u4 r9 ru0 ru1 ru4 rr9 o' hx) 0 ru0 (by decide) rfl vw_X0_value ml_X0_99 (by decide) rfl hl.1 rfl (Nat.le_of_ble_eq_true rfl) dX0_isSelfDistributive_67) hf (fun r10 h H locs rr10 hp hf => ?_)
      refine z_icmp_eq cx rr8 rr10 (tgt := 75) dX0_isSelfDistributive_70 (by decide) hf (fun _ hf => ?_) (fun _ hf => ?_)
      · refine z_iinc cx (fun x11 => [(5, .int (ii x11)), (0, .ref (B + u0)), (1, .int (ii u1)), (2, .int (ii u2)), (3, .int (ii u3)), (4, .int (ii u4))]) dX0_isSelfDistributive_75 hl (k := 5) rfl (by decide) (fun _ => rfl) hf (fun x11 rx11 hf ls hl => ?_)
        refine lv_goto (tgt := 32) cx.1 cx.2.1 dX0_isSelfDistributive_78 (by decide) ?_
        exact ih x11 h _ _ ls rx11 hp (lv_sub hl [1, 2, 3, 4, 5, 0] rfl) hf
      · exact hk73  h _ _ ls  hp (lv_sub hl [] rfl) hf
    · exact hk81 u3 h _ _ ls ru3 hp (lv_sub hl [0, 1, 2, 3] rfl) hf
def LX0_isSelfDistributive_12 (F : Nat) (u0 : Nat) (u1 : Int) (u2 : Int) (k87 : Int → HF → RO) (k73 : HF → RO) : Nat → Int → HF → RO
  | 0, _, _ => none
  | n + 1, v3, h =>
    zgf h u0 0 fun x3 =>
    if v3 < x3 then (
      zbd (fX0_value F u0 u1 u2 v3 h) fun r4 h =>
      zjn (fun (x81_3 : Int) (h : HF) => (
        zlet (wr (x81_3 + 1)) fun x5 =>
        LX0_isSelfDistributive_12 F u0 u1 u2 k87 k73 n x5 h
      )) fun j81 =>
      LX0_isSelfDistributive_32 F u0 u1 u2 v3 r4 j81 k73 F 0 h
    ) else (
      k87 u2 h
    )
set_option maxHeartbeats 4000000 in
set_option maxRecDepth 100000 in
theorem wX0_isSelfDistributive_12 {p : Program} {l : Launch} {e : Env} {s : State} {m : MethodId} {args : Array Value} {below : List Frame} {meth : Method} {c : Code} {Q : State → Prop} {g : zG} {B : Nat} {o : Int × HF} (F : Nat) (cx : Cx p s m args meth c cX0_isSelfDistributive 6 RX0 (some .boolean) g B) (u0 : Nat) (ru0 : kt u0 = 3) (u1 : Int) (ru1 : rng u1) (u2 : Int) (ru2 : rng u2) (k87 : Int → HF → RO) (hk87 : ∀ (x2 : Int) (h : HF) (H : Heap) (locs : List Loc) (ls : Array Slot), rng x2 → Hp g B s h H locs → lv_has ls 6 [(0, .ref (B + u0)), (1, .int (ii u1)), (2, .int (ii x2))] → k87 x2 h = some o → W p l e (rmn 2) s m args below meth c H locs 0 0 Q (F0 m 87 ls [])) (k73 : HF → RO) (hk73 : ∀  (h : HF) (H : Heap) (locs : List Loc) (ls : Array Slot), Hp g B s h H locs → lv_has ls 6 [] → k73  h = some o → W p l e (rmn 2) s m args below meth c H locs 0 0 Q (F0 m 73 ls [])) : ∀ (n : Nat) (v3 : Int) (h : HF) (H : Heap) (locs : List Loc) (ls : Array Slot), rng v3 → Hp g B s h H locs → lv_has ls 6 [(0, .ref (B + u0)), (1, .int (ii u1)), (2, .int (ii u2)), (3, .int (ii v3))] → LX0_isSelfDistributive_12 F u0 u1 u2 k87 k73 n v3 h = some o → W p l e (rmn 2) s m args below meth c H locs 0 0 Q (F0 m 12 ls []) := by
  intro n
  induction n with
  | zero =>
    intro v3 h H locs ls rv3 hp hl hf
    cases hf
  | succ n ih =>
    intro v3 h H locs ls rv3 hp hl hf
    rw [LX0_isSelfDistributive_12] at hf
    refine lv_iload_n cx.1 cx.2.1 dX0_isSelfDistributive_12 rfl (lv_at hl 3 rfl) ?_
    refine lv_aload_n cx.1 cx.2.1 dX0_isSelfDistributive_13 rfl (lv_at hl 0 rfl) ?_
    refine z_geti cx hp (T := TX0) 0 0 rfl zin_0 (by decide) (by decide) ru0 rfl fl_X0_21 dX0_isSelfDistributive_14 hf (fun x3 rx3 hf => ?_)
    refine z_icmp_ge cx rv3 rx3 (tgt := 87) dX0_isSelfDistributive_17 (by decide) hf (fun _ hf => ?_) (fun _ hf => ?_)
    · refine lv_aload_n cx.1 cx.2.1 dX0_isSelfDistributive_20 rfl (lv_at hl 0 rfl) ?_
      refine lv_iload_n cx.1 cx.2.1 dX0_isSelfDistributive_21 rfl (lv_at hl 1 rfl) ?_
      refine lv_iload_n cx.1 cx.2.1 dX0_isSelfDistributive_22 rfl (lv_at hl 2 rfl) ?_
      refine lv_iload_n cx.1 cx.2.1 dX0_isSelfDistributive_23 rfl (lv_at hl 3 rfl) ?_
      refine z_ci cx hp (fun o' hx => zrunV (n := 2) (As := [.int (ii u1), .int (ii u2), .int (ii v3)]) (rest := []) cx hp (mX0_value F l g B h u0 u1 u2 v3 ru0 ru1 ru2 rv3 o' hx) 0 ru0 (by decide) rfl vw_X0_value ml_X0_99 (by decide) rfl hl.1 rfl (Nat.le_of_ble_eq_true rfl) dX0_isSelfDistributive_24) hf (fun r4 h H locs rr4 hp hf => ?_)
      refine lv_istore (lv' := [(4, .int (ii r4)), (0, .ref (B + u0)), (1, .int (ii u1)), (2, .int (ii u2)), (3, .int (ii v3))]) cx.1 cx.2.1 dX0_isSelfDistributive_27 hl (by decide) rfl (fun ls hl => ?_)
      refine z_iconst cx dX0_isSelfDistributive_29 ?_
      refine lv_istore (lv' := [(5, .int (ii 0)), (4, .int (ii r4)), (0, .ref (B + u0)), (1, .int (ii u1)), (2, .int (ii u2)), (3, .int (ii v3))]) cx.1 cx.2.1 dX0_isSelfDistributive_30 hl (by decide) rfl (fun ls hl => ?_)
      refine z_jn hf (fun j => ∀ (x81_3 : Int) (h : HF) (H : Heap) (locs : List Loc) (ls : Array Slot), rng x81_3 → Hp g B s h H locs → lv_has ls 6 [(0, .ref (B + u0)), (1, .int (ii u1)), (2, .int (ii u2)), (3, .int (ii x81_3))] → j x81_3 h = some o → W p l e (rmn 2) s m args below meth c H locs 0 0 Q (F0 m 81 ls [])) ?_ (fun j81 hj81 hf => ?_)
      · intro x81_3 h H locs ls rx81_3 hp hl hf
        refine z_iinc cx (fun x5 => [(3, .int (ii x5)), (0, .ref (B + u0)), (1, .int (ii u1)), (2, .int (ii u2))]) dX0_isSelfDistributive_81 hl (k := 3) rfl (by decide) (fun _ => rfl) hf (fun x5 rx5 hf ls hl => ?_)
        refine lv_goto (tgt := 12) cx.1 cx.2.1 dX0_isSelfDistributive_84 (by decide) ?_
        exact ih x5 h _ _ ls rx5 hp (lv_sub hl [1, 2, 3, 0] rfl) hf
      exact wX0_isSelfDistributive_32 F cx u0 ru0 u1 ru1 u2 ru2 v3 rv3 r4 rr4 j81 hj81 k73 hk73 F 0 h _ _ ls (by decide) hp (lv_sub hl [2, 3, 4, 5, 1, 0] rfl) hf
    · exact hk87 u2 h _ _ ls ru2 hp (lv_sub hl [0, 1, 2] rfl) hf
def LX0_isSelfDistributive_2 (F : Nat) (u0 : Nat) (u1 : Int) (k93 : HF → RO) (k73 : HF → RO) : Nat → Int → HF → RO
  | 0, _, _ => none
  | n + 1, v2, h =>
    zgf h u0 0 fun x1 =>
    if v2 < x1 then (
      zjn (fun (x87_2 : Int) (h : HF) => (
        zlet (wr (x87_2 + 1)) fun x2 =>
        LX0_isSelfDistributive_2 F u0 u1 k93 k73 n x2 h
      )) fun j87 =>
      LX0_isSelfDistributive_12 F u0 u1 v2 j87 k73 F 0 h
    ) else (
      k93  h
    )
set_option maxHeartbeats 4000000 in
set_option maxRecDepth 100000 in
theorem wX0_isSelfDistributive_2 {p : Program} {l : Launch} {e : Env} {s : State} {m : MethodId} {args : Array Value} {below : List Frame} {meth : Method} {c : Code} {Q : State → Prop} {g : zG} {B : Nat} {o : Int × HF} (F : Nat) (cx : Cx p s m args meth c cX0_isSelfDistributive 6 RX0 (some .boolean) g B) (u0 : Nat) (ru0 : kt u0 = 3) (u1 : Int) (ru1 : rng u1) (k93 : HF → RO) (hk93 : ∀  (h : HF) (H : Heap) (locs : List Loc) (ls : Array Slot), Hp g B s h H locs → lv_has ls 6 [] → k93  h = some o → W p l e (rmn 2) s m args below meth c H locs 0 0 Q (F0 m 93 ls [])) (k73 : HF → RO) (hk73 : ∀  (h : HF) (H : Heap) (locs : List Loc) (ls : Array Slot), Hp g B s h H locs → lv_has ls 6 [] → k73  h = some o → W p l e (rmn 2) s m args below meth c H locs 0 0 Q (F0 m 73 ls [])) : ∀ (n : Nat) (v2 : Int) (h : HF) (H : Heap) (locs : List Loc) (ls : Array Slot), rng v2 → Hp g B s h H locs → lv_has ls 6 [(0, .ref (B + u0)), (1, .int (ii u1)), (2, .int (ii v2))] → LX0_isSelfDistributive_2 F u0 u1 k93 k73 n v2 h = some o → W p l e (rmn 2) s m args below meth c H locs 0 0 Q (F0 m 2 ls []) := by
  intro n
  induction n with
  | zero =>
    intro v2 h H locs ls rv2 hp hl hf
    cases hf
  | succ n ih =>
    intro v2 h H locs ls rv2 hp hl hf
    rw [LX0_isSelfDistributive_2] at hf
    refine lv_iload_n cx.1 cx.2.1 dX0_isSelfDistributive_2 rfl (lv_at hl 2 rfl) ?_
    refine lv_aload_n cx.1 cx.2.1 dX0_isSelfDistributive_3 rfl (lv_at hl 0 rfl) ?_
    refine z_geti cx hp (T := TX0) 0 0 rfl zin_0 (by decide) (by decide) ru0 rfl fl_X0_21 dX0_isSelfDistributive_4 hf (fun x1 rx1 hf => ?_)
    refine z_icmp_ge cx rv2 rx1 (tgt := 93) dX0_isSelfDistributive_7 (by decide) hf (fun _ hf => ?_) (fun _ hf => ?_)
    · refine z_iconst cx dX0_isSelfDistributive_10 ?_
      refine lv_istore_n (lv' := [(3, .int (ii 0)), (0, .ref (B + u0)), (1, .int (ii u1)), (2, .int (ii v2))]) cx.1 cx.2.1 dX0_isSelfDistributive_11 rfl hl (by decide) rfl (fun ls hl => ?_)
      refine z_jn hf (fun j => ∀ (x87_2 : Int) (h : HF) (H : Heap) (locs : List Loc) (ls : Array Slot), rng x87_2 → Hp g B s h H locs → lv_has ls 6 [(0, .ref (B + u0)), (1, .int (ii u1)), (2, .int (ii x87_2))] → j x87_2 h = some o → W p l e (rmn 2) s m args below meth c H locs 0 0 Q (F0 m 87 ls [])) ?_ (fun j87 hj87 hf => ?_)
      · intro x87_2 h H locs ls rx87_2 hp hl hf
        refine z_iinc cx (fun x2 => [(2, .int (ii x2)), (0, .ref (B + u0)), (1, .int (ii u1))]) dX0_isSelfDistributive_87 hl (k := 2) rfl (by decide) (fun _ => rfl) hf (fun x2 rx2 hf ls hl => ?_)
        refine lv_goto (tgt := 2) cx.1 cx.2.1 dX0_isSelfDistributive_90 (by decide) ?_
        exact ih x2 h _ _ ls rx2 hp (lv_sub hl [1, 2, 0] rfl) hf
      exact wX0_isSelfDistributive_12 F cx u0 ru0 u1 ru1 v2 rv2 j87 hj87 k73 hk73 F 0 h _ _ ls (by decide) hp (lv_sub hl [1, 2, 3, 0] rfl) hf
    · exact hk93  h _ _ ls  hp (lv_sub hl [] rfl) hf
def fX0_isSelfDistributive (F : Nat) (a0 : Nat) (a1 : Int) (h : HF) : RO :=
  zjn (fun  (h : HF) => (
    zrz 1 h
  )) fun j93 =>
  zjn (fun  (h : HF) => (
    zrz 0 h
  )) fun j73 =>
  LX0_isSelfDistributive_2 F a0 a1 j93 j73 F 0 h
set_option maxHeartbeats 4000000 in
set_option maxRecDepth 100000 in
theorem mX0_isSelfDistributive (F : Nat) (l : Launch) (g : zG) (B : Nat) (h : HF) (a0 : Nat) (a1 : Int) (ra0 : kt a0 = 3) (ra1 : rng a1) : CTi l g B yX0_isSelfDistributive cX0_isSelfDistributive 6 (some .boolean) 2 [.ref (B + a0), .int (ii a1)] h (fX0_isSelfDistributive F a0 a1 h) := by
  refine z_enterI (by decide) rfl (Nat.le_of_ble_eq_true rfl) ?_
  intro p e s m args below meth c ls o Q cx hp hl hf hQ
  have hl : lv_has ls 6 [(0, .ref (B + a0)), (1, .int (ii a1))] := hl
  unfold fX0_isSelfDistributive at hf
  refine z_iconst cx dX0_isSelfDistributive_0 ?_
  refine lv_istore_n (lv' := [(2, .int (ii 0)), (0, .ref (B + a0)), (1, .int (ii a1))]) cx.1 cx.2.1 dX0_isSelfDistributive_1 rfl hl (by decide) rfl (fun ls hl => ?_)
  refine z_jn hf (fun j => ∀  (h : HF) (H : Heap) (locs : List Loc) (ls : Array Slot), Hp g B s h H locs → lv_has ls 6 [] → j  h = some o → W p l e (rmn 2) s m args below meth c H locs 0 0 Q (F0 m 93 ls [])) ?_ (fun j93 hj93 hf => ?_)
  · intro  h H locs ls  hp hl hf
    refine z_iconst cx dX0_isSelfDistributive_93 ?_
    rw [hQ]; exact z_zret cx hp dX0_isSelfDistributive_94 hf
  refine z_jn hf (fun j => ∀  (h : HF) (H : Heap) (locs : List Loc) (ls : Array Slot), Hp g B s h H locs → lv_has ls 6 [] → j  h = some o → W p l e (rmn 2) s m args below meth c H locs 0 0 Q (F0 m 73 ls [])) ?_ (fun j73 hj73 hf => ?_)
  · intro  h H locs ls  hp hl hf
    refine z_iconst cx dX0_isSelfDistributive_73 ?_
    rw [hQ]; exact z_zret cx hp dX0_isSelfDistributive_74 hf
  exact wX0_isSelfDistributive_2 F cx a0 ra0 a1 ra1 j93 hj93 j73 hj73 F 0 h _ _ ls (by decide) hp (lv_sub hl [1, 2, 0] rfl) hf
theorem dX0_hasNeutral_0 : decode cX0_hasNeutral 0 = .ok (.iconst 0, 1) := by decide +kernel
theorem dX0_hasNeutral_1 : decode cX0_hasNeutral 1 = .ok (.istore_n 2, 1) := by decide +kernel
theorem dX0_hasNeutral_2 : decode cX0_hasNeutral 2 = .ok (.iload_n 2, 1) := by decide +kernel
theorem dX0_hasNeutral_3 : decode cX0_hasNeutral 3 = .ok (.aload_n 0, 1) := by decide +kernel
theorem dX0_hasNeutral_4 : decode cX0_hasNeutral 4 = .ok (.getfield 21, 3) := by decide +kernel
theorem dX0_hasNeutral_7 : decode cX0_hasNeutral 7 = .ok (.if_icmp .ge 71, 3) := by decide +kernel
theorem dX0_hasNeutral_10 : decode cX0_hasNeutral 10 = .ok (.iconst 1, 1) := by decide +kernel
theorem dX0_hasNeutral_11 : decode cX0_hasNeutral 11 = .ok (.istore_n 3, 1) := by decide +kernel
theorem dX0_hasNeutral_12 : decode cX0_hasNeutral 12 = .ok (.iconst 0, 1) := by decide +kernel
theorem dX0_hasNeutral_13 : decode cX0_hasNeutral 13 = .ok (.istore 4, 2) := by decide +kernel
theorem dX0_hasNeutral_15 : decode cX0_hasNeutral 15 = .ok (.iload 4, 2) := by decide +kernel
theorem dX0_hasNeutral_17 : decode cX0_hasNeutral 17 = .ok (.aload_n 0, 1) := by decide +kernel
theorem dX0_hasNeutral_18 : decode cX0_hasNeutral 18 = .ok (.getfield 21, 3) := by decide +kernel
theorem dX0_hasNeutral_21 : decode cX0_hasNeutral 21 = .ok (.if_icmp .ge 45, 3) := by decide +kernel
theorem dX0_hasNeutral_24 : decode cX0_hasNeutral 24 = .ok (.iload_n 3, 1) := by decide +kernel
theorem dX0_hasNeutral_25 : decode cX0_hasNeutral 25 = .ok (.ifCond .eq 41, 3) := by decide +kernel
theorem dX0_hasNeutral_28 : decode cX0_hasNeutral 28 = .ok (.aload_n 0, 1) := by decide +kernel
theorem dX0_hasNeutral_29 : decode cX0_hasNeutral 29 = .ok (.iload_n 1, 1) := by decide +kernel
theorem dX0_hasNeutral_30 : decode cX0_hasNeutral 30 = .ok (.iload_n 2, 1) := by decide +kernel
theorem dX0_hasNeutral_31 : decode cX0_hasNeutral 31 = .ok (.iload 4, 2) := by decide +kernel
theorem dX0_hasNeutral_33 : decode cX0_hasNeutral 33 = .ok (.invokevirtual 99, 3) := by decide +kernel
theorem dX0_hasNeutral_36 : decode cX0_hasNeutral 36 = .ok (.iload 4, 2) := by decide +kernel
theorem dX0_hasNeutral_38 : decode cX0_hasNeutral 38 = .ok (.if_icmp .ne 20, 3) := by decide +kernel
theorem dX0_hasNeutral_41 : decode cX0_hasNeutral 41 = .ok (.aload_n 0, 1) := by decide +kernel
theorem dX0_hasNeutral_42 : decode cX0_hasNeutral 42 = .ok (.iload_n 1, 1) := by decide +kernel
theorem dX0_hasNeutral_43 : decode cX0_hasNeutral 43 = .ok (.iload 4, 2) := by decide +kernel
theorem dX0_hasNeutral_45 : decode cX0_hasNeutral 45 = .ok (.iload_n 2, 1) := by decide +kernel
theorem dX0_hasNeutral_46 : decode cX0_hasNeutral 46 = .ok (.invokevirtual 99, 3) := by decide +kernel
theorem dX0_hasNeutral_49 : decode cX0_hasNeutral 49 = .ok (.iload 4, 2) := by decide +kernel
theorem dX0_hasNeutral_51 : decode cX0_hasNeutral 51 = .ok (.if_icmp .ne 7, 3) := by decide +kernel
theorem dX0_hasNeutral_54 : decode cX0_hasNeutral 54 = .ok (.iconst 1, 1) := by decide +kernel
theorem dX0_hasNeutral_55 : decode cX0_hasNeutral 55 = .ok (.goto 4, 3) := by decide +kernel
theorem dX0_hasNeutral_58 : decode cX0_hasNeutral 58 = .ok (.iconst 0, 1) := by decide +kernel
theorem dX0_hasNeutral_59 : decode cX0_hasNeutral 59 = .ok (.istore_n 3, 1) := by decide +kernel
theorem dX0_hasNeutral_60 : decode cX0_hasNeutral 60 = .ok (.iinc 4 1, 3) := by decide +kernel
theorem dX0_hasNeutral_63 : decode cX0_hasNeutral 63 = .ok (.goto (-48), 3) := by decide +kernel
theorem dX0_hasNeutral_66 : decode cX0_hasNeutral 66 = .ok (.iload_n 3, 1) := by decide +kernel
theorem dX0_hasNeutral_67 : decode cX0_hasNeutral 67 = .ok (.ifCond .eq 5, 3) := by decide +kernel
theorem dX0_hasNeutral_70 : decode cX0_hasNeutral 70 = .ok (.iconst 1, 1) := by decide +kernel
theorem dX0_hasNeutral_71 : decode cX0_hasNeutral 71 = .ok (.ireturn, 1) := by decide +kernel
theorem dX0_hasNeutral_72 : decode cX0_hasNeutral 72 = .ok (.iinc 2 1, 3) := by decide +kernel
theorem dX0_hasNeutral_75 : decode cX0_hasNeutral 75 = .ok (.goto (-73), 3) := by decide +kernel
theorem dX0_hasNeutral_78 : decode cX0_hasNeutral 78 = .ok (.iconst 0, 1) := by decide +kernel
theorem dX0_hasNeutral_79 : decode cX0_hasNeutral 79 = .ok (.ireturn, 1) := by decide +kernel
def LX0_hasNeutral_15 (F : Nat) (u0 : Nat) (u1 : Int) (u2 : Int) (k66 : Int → Int → HF → RO) : Nat → Int → Int → HF → RO
  | 0, _, _, _ => none
  | n + 1, v3, v4, h =>
    zgf h u0 0 fun x3 =>
    if v4 < x3 then (
      if v3 = 0 then (
        k66 u2 v3 h
      ) else (
        zbd (fX0_value F u0 u1 u2 v4 h) fun r4 h =>
        zjn (fun (x59_4 : Int) (y59_0 : Int) (h : HF) => (
          zlet (wr (x59_4 + 1)) fun x5 =>
          LX0_hasNeutral_15 F u0 u1 u2 k66 n y59_0 x5 h
        )) fun j59 =>
        zjn (fun (x58_4 : Int) (h : HF) => (
          j59 x58_4 0 h
        )) fun j58 =>
        if r4 = v4 then (
          zbd (fX0_value F u0 u1 v4 u2 h) fun r6 h =>
          if r6 = v4 then (
            j59 v4 1 h
          ) else (
            j58 v4 h
          )
        ) else (
          j58 v4 h
        )
      )
    ) else (
      k66 u2 v3 h
    )
set_option maxHeartbeats 4000000 in
set_option maxRecDepth 100000 in
theorem wX0_hasNeutral_15 {p : Program} {l : Launch} {e : Env} {s : State} {m : MethodId} {args : Array Value} {below : List Frame} {meth : Method} {c : Code} {Q : State → Prop} {g : zG} {B : Nat} {o : Int × HF} (F : Nat) (cx : Cx p s m args meth c cX0_hasNeutral 5 RX0 (some .boolean) g B) (u0 : Nat) (ru0 : kt u0 = 3) (u1 : Int) (ru1 : rng u1) (u2 : Int) (ru2 : rng u2) (k66 : Int → Int → HF → RO) (hk66 : ∀ (x2 : Int) (x3 : Int) (h : HF) (H : Heap) (locs : List Loc) (ls : Array Slot), rng x2 → rng x3 → Hp g B s h H locs → lv_has ls 5 [(0, .ref (B + u0)), (1, .int (ii u1)), (2, .int (ii x2)), (3, .int (ii x3))] → k66 x2 x3 h = some o → W p l e (rmn 2) s m args below meth c H locs 0 0 Q (F0 m 66 ls [])) : ∀ (n : Nat) (v3 : Int) (v4 : Int) (h : HF) (H : Heap) (locs : List Loc) (ls : Array Slot), rng v3 → rng v4 → Hp g B s h H locs → lv_has ls 5 [(0, .ref (B + u0)), (1, .int (ii u1)), (2, .int (ii u2)), (3, .int (ii v3)), (4, .int (ii v4))] → LX0_hasNeutral_15 F u0 u1 u2 k66 n v3 v4 h = some o → W p l e (rmn 2) s m args below meth c H locs 0 0 Q (F0 m 15 ls []) := by
  intro n
  induction n with
  | zero =>
    intro v3 v4 h H locs ls rv3 rv4 hp hl hf
    cases hf
  | succ n ih =>
    intro v3 v4 h H locs ls rv3 rv4 hp hl hf
    rw [LX0_hasNeutral_15] at hf
    refine lv_iload cx.1 cx.2.1 dX0_hasNeutral_15 (lv_at hl 4 rfl) ?_
    refine lv_aload_n cx.1 cx.2.1 dX0_hasNeutral_17 rfl (lv_at hl 0 rfl) ?_
    refine z_geti cx hp (T := TX0) 0 0 rfl zin_0 (by decide) (by decide) ru0 rfl fl_X0_21 dX0_hasNeutral_18 hf (fun x3 rx3 hf => ?_)
    refine z_icmp_ge cx rv4 rx3 (tgt := 66) dX0_hasNeutral_21 (by decide) hf (fun _ hf => ?_) (fun _ hf => ?_)
    · refine lv_iload_n cx.1 cx.2.1 dX0_hasNeutral_24 rfl (lv_at hl 3 rfl) ?_
      refine z_if_eq cx rv3 (tgt := 66) dX0_hasNeutral_25 (by decide) hf (fun _ hf => ?_) (fun _ hf => ?_)
      · exact hk66 u2 v3 h _ _ ls ru2 rv3 hp (lv_sub hl [0, 1, 2, 3] rfl) hf
      · refine lv_aload_n cx.1 cx.2.1 dX0_hasNeutral_28 rfl (lv_at hl 0 rfl) ?_
        refine lv_iload_n cx.1 cx.2.1 dX0_hasNeutral_29 rfl (lv_at hl 1 rfl) ?_
        refine lv_iload_n cx.1 cx.2.1 dX0_hasNeutral_30 rfl (lv_at hl 2 rfl) ?_
        refine lv_iload cx.1 cx.2.1 dX0_hasNeutral_31 (lv_at hl 4 rfl) ?_
        refine z_ci cx hp (fun o' hx => zrunV (n := 2) (As := [.int (ii u1), .int (ii u2), .int (ii v4)]) (rest := []) cx hp (mX0_value F l g B h u0 u1 u2 v4 ru0 ru1 ru2 rv4 o' hx) 0 ru0 (by decide) rfl vw_X0_value ml_X0_99 (by decide) rfl hl.1 rfl (Nat.le_of_ble_eq_true rfl) dX0_hasNeutral_33) hf (fun r4 h H locs rr4 hp hf => ?_)
        refine lv_iload cx.1 cx.2.1 dX0_hasNeutral_36 (lv_at hl 4 rfl) ?_
        refine z_jn hf (fun j => ∀ (x59_4 : Int) (y59_0 : Int) (h : HF) (H : Heap) (locs : List Loc) (ls : Array Slot), rng x59_4 → rng y59_0 → Hp g B s h H locs → lv_has ls 5 [(0, .ref (B + u0)), (1, .int (ii u1)), (2, .int (ii u2)), (4, .int (ii x59_4))] → j x59_4 y59_0 h = some o → W p l e (rmn 2) s m args below meth c H locs 0 0 Q (F0 m 59 ls [.int (ii y59_0)])) ?_ (fun j59 hj59 hf => ?_)
        · intro x59_4 y59_0 h H locs ls rx59_4 ry59_0 hp hl hf
          refine lv_istore_n (lv' := [(3, .int (ii y59_0)), (0, .ref (B + u0)), (1, .int (ii u1)), (2, .int (ii u2)), (4, .int (ii x59_4))]) cx.1 cx.2.1 dX0_hasNeutral_59 rfl hl (by decide) rfl (fun ls hl => ?_)
          refine z_iinc cx (fun x5 => [(4, .int (ii x5)), (3, .int (ii y59_0)), (0, .ref (B + u0)), (1, .int (ii u1)), (2, .int (ii u2))]) dX0_hasNeutral_60 hl (k := 4) rfl (by decide) (fun _ => rfl) hf (fun x5 rx5 hf ls hl => ?_)
          refine lv_goto (tgt := 15) cx.1 cx.2.1 dX0_hasNeutral_63 (by decide) ?_
          exact ih y59_0 x5 h _ _ ls ry59_0 rx5 hp (lv_sub hl [2, 3, 4, 1, 0] rfl) hf
        refine z_jn hf (fun j => ∀ (x58_4 : Int) (h : HF) (H : Heap) (locs : List Loc) (ls : Array Slot), rng x58_4 → Hp g B s h H locs → lv_has ls 5 [(0, .ref (B + u0)), (1, .int (ii u1)), (2, .int (ii u2)), (4, .int (ii x58_4))] → j x58_4 h = some o → W p l e (rmn 2) s m args below meth c H locs 0 0 Q (F0 m 58 ls [])) ?_ (fun j58 hj58 hf => ?_)
        · intro x58_4 h H locs ls rx58_4 hp hl hf
          refine z_iconst cx dX0_hasNeutral_58 ?_
          exact hj59 x58_4 0 h _ _ ls rx58_4 (by decide) hp (lv_sub hl [0, 1, 2, 3] rfl) hf
        refine z_icmp_ne cx rr4 rv4 (tgt := 58) dX0_hasNeutral_38 (by decide) hf (fun _ hf => ?_) (fun _ hf => ?_)
        · refine lv_aload_n cx.1 cx.2.1 dX0_hasNeutral_41 rfl (lv_at hl 0 rfl) ?_
          refine lv_iload_n cx.1 cx.2.1 dX0_hasNeutral_42 rfl (lv_at hl 1 rfl) ?_
          refine lv_iload cx.1 cx.2.1 dX0_hasNeutral_43 (lv_at hl 4 rfl) ?_
          refine lv_iload_n cx.1 cx.2.1 dX0_hasNeutral_45 rfl (lv_at hl 2 rfl) ?_
          refine z_ci cx hp (fun o' hx => zrunV (n := 2) (As := [.int (ii u1), .int (ii v4), .int (ii u2)]) (rest := []) cx hp (mX0_value F l g B h u0 u1 v4 u2 ru0 ru1 rv4 ru2 o' hx) 0 ru0 (by decide) rfl vw_X0_value ml_X0_99 (by decide) rfl hl.1 rfl (Nat.le_of_ble_eq_true rfl) dX0_hasNeutral_46) hf (fun r6 h H locs rr6 hp hf => ?_)
          refine lv_iload cx.1 cx.2.1 dX0_hasNeutral_49 (lv_at hl 4 rfl) ?_
          refine z_icmp_ne cx rr6 rv4 (tgt := 58) dX0_hasNeutral_51 (by decide) hf (fun _ hf => ?_) (fun _ hf => ?_)
          · refine z_iconst cx dX0_hasNeutral_54 ?_
            refine lv_goto (tgt := 59) cx.1 cx.2.1 dX0_hasNeutral_55 (by decide) ?_
            exact hj59 v4 1 h _ _ ls rv4 (by decide) hp (lv_sub hl [0, 1, 2, 4] rfl) hf
          · exact hj58 v4 h _ _ ls rv4 hp (lv_sub hl [0, 1, 2, 4] rfl) hf
        · exact hj58 v4 h _ _ ls rv4 hp (lv_sub hl [0, 1, 2, 4] rfl) hf
    · exact hk66 u2 v3 h _ _ ls ru2 rv3 hp (lv_sub hl [0, 1, 2, 3] rfl) hf
def LX0_hasNeutral_2 (F : Nat) (u0 : Nat) (u1 : Int) (k78 : HF → RO) (k70 : HF → RO) : Nat → Int → HF → RO
  | 0, _, _ => none
  | n + 1, v2, h =>
    zgf h u0 0 fun x1 =>
    if v2 < x1 then (
      zjn (fun (x66_2 : Int) (x66_3 : Int) (h : HF) => (
        if x66_3 = 0 then (
          zlet (wr (x66_2 + 1)) fun x2 =>
          LX0_hasNeutral_2 F u0 u1 k78 k70 n x2 h
        ) else (
          k70  h
        )
      )) fun j66 =>
      LX0_hasNeutral_15 F u0 u1 v2 j66 F 1 0 h
    ) else (
      k78  h
    )
set_option maxHeartbeats 4000000 in
set_option maxRecDepth 100000 in
theorem wX0_hasNeutral_2 {p : Program} {l : Launch} {e : Env} {s : State} {m : MethodId} {args : Array Value} {below : List Frame} {meth : Method} {c : Code} {Q : State → Prop} {g : zG} {B : Nat} {o : Int × HF} (F : Nat) (cx : Cx p s m args meth c cX0_hasNeutral 5 RX0 (some .boolean) g B) (u0 : Nat) (ru0 : kt u0 = 3) (u1 : Int) (ru1 : rng u1) (k78 : HF → RO) (hk78 : ∀  (h : HF) (H : Heap) (locs : List Loc) (ls : Array Slot), Hp g B s h H locs → lv_has ls 5 [] → k78  h = some o → W p l e (rmn 2) s m args below meth c H locs 0 0 Q (F0 m 78 ls [])) (k70 : HF → RO) (hk70 : ∀  (h : HF) (H : Heap) (locs : List Loc) (ls : Array Slot), Hp g B s h H locs → lv_has ls 5 [] → k70  h = some o → W p l e (rmn 2) s m args below meth c H locs 0 0 Q (F0 m 70 ls [])) : ∀ (n : Nat) (v2 : Int) (h : HF) (H : Heap) (locs : List Loc) (ls : Array Slot), rng v2 → Hp g B s h H locs → lv_has ls 5 [(0, .ref (B + u0)), (1, .int (ii u1)), (2, .int (ii v2))] → LX0_hasNeutral_2 F u0 u1 k78 k70 n v2 h = some o → W p l e (rmn 2) s m args below meth c H locs 0 0 Q (F0 m 2 ls []) := by
  intro n
  induction n with
  | zero =>
    intro v2 h H locs ls rv2 hp hl hf
    cases hf
  | succ n ih =>
    intro v2 h H locs ls rv2 hp hl hf
    rw [LX0_hasNeutral_2] at hf
    refine lv_iload_n cx.1 cx.2.1 dX0_hasNeutral_2 rfl (lv_at hl 2 rfl) ?_
    refine lv_aload_n cx.1 cx.2.1 dX0_hasNeutral_3 rfl (lv_at hl 0 rfl) ?_
    refine z_geti cx hp (T := TX0) 0 0 rfl zin_0 (by decide) (by decide) ru0 rfl fl_X0_21 dX0_hasNeutral_4 hf (fun x1 rx1 hf => ?_)
    refine z_icmp_ge cx rv2 rx1 (tgt := 78) dX0_hasNeutral_7 (by decide) hf (fun _ hf => ?_) (fun _ hf => ?_)
    · refine z_iconst cx dX0_hasNeutral_10 ?_
      refine lv_istore_n (lv' := [(3, .int (ii 1)), (0, .ref (B + u0)), (1, .int (ii u1)), (2, .int (ii v2))]) cx.1 cx.2.1 dX0_hasNeutral_11 rfl hl (by decide) rfl (fun ls hl => ?_)
      refine z_iconst cx dX0_hasNeutral_12 ?_
      refine lv_istore (lv' := [(4, .int (ii 0)), (3, .int (ii 1)), (0, .ref (B + u0)), (1, .int (ii u1)), (2, .int (ii v2))]) cx.1 cx.2.1 dX0_hasNeutral_13 hl (by decide) rfl (fun ls hl => ?_)
      refine z_jn hf (fun j => ∀ (x66_2 : Int) (x66_3 : Int) (h : HF) (H : Heap) (locs : List Loc) (ls : Array Slot), rng x66_2 → rng x66_3 → Hp g B s h H locs → lv_has ls 5 [(0, .ref (B + u0)), (1, .int (ii u1)), (2, .int (ii x66_2)), (3, .int (ii x66_3))] → j x66_2 x66_3 h = some o → W p l e (rmn 2) s m args below meth c H locs 0 0 Q (F0 m 66 ls [])) ?_ (fun j66 hj66 hf => ?_)
      · intro x66_2 x66_3 h H locs ls rx66_2 rx66_3 hp hl hf
        refine lv_iload_n cx.1 cx.2.1 dX0_hasNeutral_66 rfl (lv_at hl 3 rfl) ?_
        refine z_if_eq cx rx66_3 (tgt := 72) dX0_hasNeutral_67 (by decide) hf (fun _ hf => ?_) (fun _ hf => ?_)
        · refine z_iinc cx (fun x2 => [(2, .int (ii x2)), (0, .ref (B + u0)), (1, .int (ii u1)), (3, .int (ii x66_3))]) dX0_hasNeutral_72 hl (k := 2) rfl (by decide) (fun _ => rfl) hf (fun x2 rx2 hf ls hl => ?_)
          refine lv_goto (tgt := 2) cx.1 cx.2.1 dX0_hasNeutral_75 (by decide) ?_
          exact ih x2 h _ _ ls rx2 hp (lv_sub hl [1, 2, 0] rfl) hf
        · exact hk70  h _ _ ls  hp (lv_sub hl [] rfl) hf
      exact wX0_hasNeutral_15 F cx u0 ru0 u1 ru1 v2 rv2 j66 hj66 F 1 0 h _ _ ls (by decide) (by decide) hp (lv_sub hl [2, 3, 4, 1, 0] rfl) hf
    · exact hk78  h _ _ ls  hp (lv_sub hl [] rfl) hf
def fX0_hasNeutral (F : Nat) (a0 : Nat) (a1 : Int) (h : HF) : RO :=
  zjn (fun  (h : HF) => (
    zrz 0 h
  )) fun j78 =>
  zjn (fun  (h : HF) => (
    zrz 1 h
  )) fun j70 =>
  LX0_hasNeutral_2 F a0 a1 j78 j70 F 0 h
set_option maxHeartbeats 4000000 in
set_option maxRecDepth 100000 in
theorem mX0_hasNeutral (F : Nat) (l : Launch) (g : zG) (B : Nat) (h : HF) (a0 : Nat) (a1 : Int) (ra0 : kt a0 = 3) (ra1 : rng a1) : CTi l g B yX0_hasNeutral cX0_hasNeutral 5 (some .boolean) 2 [.ref (B + a0), .int (ii a1)] h (fX0_hasNeutral F a0 a1 h) := by
  refine z_enterI (by decide) rfl (Nat.le_of_ble_eq_true rfl) ?_
  intro p e s m args below meth c ls o Q cx hp hl hf hQ
  have hl : lv_has ls 5 [(0, .ref (B + a0)), (1, .int (ii a1))] := hl
  unfold fX0_hasNeutral at hf
  refine z_iconst cx dX0_hasNeutral_0 ?_
  refine lv_istore_n (lv' := [(2, .int (ii 0)), (0, .ref (B + a0)), (1, .int (ii a1))]) cx.1 cx.2.1 dX0_hasNeutral_1 rfl hl (by decide) rfl (fun ls hl => ?_)
  refine z_jn hf (fun j => ∀  (h : HF) (H : Heap) (locs : List Loc) (ls : Array Slot), Hp g B s h H locs → lv_has ls 5 [] → j  h = some o → W p l e (rmn 2) s m args below meth c H locs 0 0 Q (F0 m 78 ls [])) ?_ (fun j78 hj78 hf => ?_)
  · intro  h H locs ls  hp hl hf
    refine z_iconst cx dX0_hasNeutral_78 ?_
    rw [hQ]; exact z_zret cx hp dX0_hasNeutral_79 hf
  refine z_jn hf (fun j => ∀  (h : HF) (H : Heap) (locs : List Loc) (ls : Array Slot), Hp g B s h H locs → lv_has ls 5 [] → j  h = some o → W p l e (rmn 2) s m args below meth c H locs 0 0 Q (F0 m 70 ls [])) ?_ (fun j70 hj70 hf => ?_)
  · intro  h H locs ls  hp hl hf
    refine z_iconst cx dX0_hasNeutral_70 ?_
    rw [hQ]; exact z_zret cx hp dX0_hasNeutral_71 hf
  exact wX0_hasNeutral_2 F cx a0 ra0 a1 ra1 j78 hj78 j70 hj70 F 0 h _ _ ls (by decide) hp (lv_sub hl [1, 2, 0] rfl) hf
theorem dX0_isIdempotent_0 : decode cX0_isIdempotent 0 = .ok (.iconst 0, 1) := by decide +kernel
theorem dX0_isIdempotent_1 : decode cX0_isIdempotent 1 = .ok (.istore_n 2, 1) := by decide +kernel
theorem dX0_isIdempotent_2 : decode cX0_isIdempotent 2 = .ok (.iload_n 2, 1) := by decide +kernel
theorem dX0_isIdempotent_3 : decode cX0_isIdempotent 3 = .ok (.aload_n 0, 1) := by decide +kernel
theorem dX0_isIdempotent_4 : decode cX0_isIdempotent 4 = .ok (.getfield 21, 3) := by decide +kernel
theorem dX0_isIdempotent_7 : decode cX0_isIdempotent 7 = .ok (.if_icmp .ge 22, 3) := by decide +kernel
theorem dX0_isIdempotent_10 : decode cX0_isIdempotent 10 = .ok (.aload_n 0, 1) := by decide +kernel
theorem dX0_isIdempotent_11 : decode cX0_isIdempotent 11 = .ok (.iload_n 1, 1) := by decide +kernel
theorem dX0_isIdempotent_12 : decode cX0_isIdempotent 12 = .ok (.iload_n 2, 1) := by decide +kernel
theorem dX0_isIdempotent_13 : decode cX0_isIdempotent 13 = .ok (.iload_n 2, 1) := by decide +kernel
theorem dX0_isIdempotent_14 : decode cX0_isIdempotent 14 = .ok (.invokevirtual 99, 3) := by decide +kernel
theorem dX0_isIdempotent_17 : decode cX0_isIdempotent 17 = .ok (.iload_n 2, 1) := by decide +kernel
theorem dX0_isIdempotent_18 : decode cX0_isIdempotent 18 = .ok (.if_icmp .eq 5, 3) := by decide +kernel
theorem dX0_isIdempotent_21 : decode cX0_isIdempotent 21 = .ok (.iconst 0, 1) := by decide +kernel
theorem dX0_isIdempotent_22 : decode cX0_isIdempotent 22 = .ok (.ireturn, 1) := by decide +kernel
theorem dX0_isIdempotent_23 : decode cX0_isIdempotent 23 = .ok (.iinc 2 1, 3) := by decide +kernel
theorem dX0_isIdempotent_26 : decode cX0_isIdempotent 26 = .ok (.goto (-24), 3) := by decide +kernel
theorem dX0_isIdempotent_29 : decode cX0_isIdempotent 29 = .ok (.iconst 1, 1) := by decide +kernel
theorem dX0_isIdempotent_30 : decode cX0_isIdempotent 30 = .ok (.ireturn, 1) := by decide +kernel
def LX0_isIdempotent_2 (F : Nat) (u0 : Nat) (u1 : Int) (k29 : HF → RO) (k21 : HF → RO) : Nat → Int → HF → RO
  | 0, _, _ => none
  | n + 1, v2, h =>
    zgf h u0 0 fun x1 =>
    if v2 < x1 then (
      zbd (fX0_value F u0 u1 v2 v2 h) fun r2 h =>
      if r2 = v2 then (
        zlet (wr (v2 + 1)) fun x3 =>
        LX0_isIdempotent_2 F u0 u1 k29 k21 n x3 h
      ) else (
        k21  h
      )
    ) else (
      k29  h
    )
set_option maxHeartbeats 4000000 in
set_option maxRecDepth 100000 in
theorem wX0_isIdempotent_2 {p : Program} {l : Launch} {e : Env} {s : State} {m : MethodId} {args : Array Value} {below : List Frame} {meth : Method} {c : Code} {Q : State → Prop} {g : zG} {B : Nat} {o : Int × HF} (F : Nat) (cx : Cx p s m args meth c cX0_isIdempotent 3 RX0 (some .boolean) g B) (u0 : Nat) (ru0 : kt u0 = 3) (u1 : Int) (ru1 : rng u1) (k29 : HF → RO) (hk29 : ∀  (h : HF) (H : Heap) (locs : List Loc) (ls : Array Slot), Hp g B s h H locs → lv_has ls 3 [] → k29  h = some o → W p l e (rmn 2) s m args below meth c H locs 0 0 Q (F0 m 29 ls [])) (k21 : HF → RO) (hk21 : ∀  (h : HF) (H : Heap) (locs : List Loc) (ls : Array Slot), Hp g B s h H locs → lv_has ls 3 [] → k21  h = some o → W p l e (rmn 2) s m args below meth c H locs 0 0 Q (F0 m 21 ls [])) : ∀ (n : Nat) (v2 : Int) (h : HF) (H : Heap) (locs : List Loc) (ls : Array Slot), rng v2 → Hp g B s h H locs → lv_has ls 3 [(0, .ref (B + u0)), (1, .int (ii u1)), (2, .int (ii v2))] → LX0_isIdempotent_2 F u0 u1 k29 k21 n v2 h = some o → W p l e (rmn 2) s m args below meth c H locs 0 0 Q (F0 m 2 ls []) := by
  intro n
  induction n with
  | zero =>
    intro v2 h H locs ls rv2 hp hl hf
    cases hf
  | succ n ih =>
    intro v2 h H locs ls rv2 hp hl hf
    rw [LX0_isIdempotent_2] at hf
    refine lv_iload_n cx.1 cx.2.1 dX0_isIdempotent_2 rfl (lv_at hl 2 rfl) ?_
    refine lv_aload_n cx.1 cx.2.1 dX0_isIdempotent_3 rfl (lv_at hl 0 rfl) ?_
    refine z_geti cx hp (T := TX0) 0 0 rfl zin_0 (by decide) (by decide) ru0 rfl fl_X0_21 dX0_isIdempotent_4 hf (fun x1 rx1 hf => ?_)
    refine z_icmp_ge cx rv2 rx1 (tgt := 29) dX0_isIdempotent_7 (by decide) hf (fun _ hf => ?_) (fun _ hf => ?_)
    · refine lv_aload_n cx.1 cx.2.1 dX0_isIdempotent_10 rfl (lv_at hl 0 rfl) ?_
      refine lv_iload_n cx.1 cx.2.1 dX0_isIdempotent_11 rfl (lv_at hl 1 rfl) ?_
      refine lv_iload_n cx.1 cx.2.1 dX0_isIdempotent_12 rfl (lv_at hl 2 rfl) ?_
      refine lv_iload_n cx.1 cx.2.1 dX0_isIdempotent_13 rfl (lv_at hl 2 rfl) ?_
      refine z_ci cx hp (fun o' hx => zrunV (n := 2) (As := [.int (ii u1), .int (ii v2), .int (ii v2)]) (rest := []) cx hp (mX0_value F l g B h u0 u1 v2 v2 ru0 ru1 rv2 rv2 o' hx) 0 ru0 (by decide) rfl vw_X0_value ml_X0_99 (by decide) rfl hl.1 rfl (Nat.le_of_ble_eq_true rfl) dX0_isIdempotent_14) hf (fun r2 h H locs rr2 hp hf => ?_)
      refine lv_iload_n cx.1 cx.2.1 dX0_isIdempotent_17 rfl (lv_at hl 2 rfl) ?_
      refine z_icmp_eq cx rr2 rv2 (tgt := 23) dX0_isIdempotent_18 (by decide) hf (fun _ hf => ?_) (fun _ hf => ?_)
      · refine z_iinc cx (fun x3 => [(2, .int (ii x3)), (0, .ref (B + u0)), (1, .int (ii u1))]) dX0_isIdempotent_23 hl (k := 2) rfl (by decide) (fun _ => rfl) hf (fun x3 rx3 hf ls hl => ?_)
        refine lv_goto (tgt := 2) cx.1 cx.2.1 dX0_isIdempotent_26 (by decide) ?_
        exact ih x3 h _ _ ls rx3 hp (lv_sub hl [1, 2, 0] rfl) hf
      · exact hk21  h _ _ ls  hp (lv_sub hl [] rfl) hf
    · exact hk29  h _ _ ls  hp (lv_sub hl [] rfl) hf
def fX0_isIdempotent (F : Nat) (a0 : Nat) (a1 : Int) (h : HF) : RO :=
  zjn (fun  (h : HF) => (
    zrz 1 h
  )) fun j29 =>
  zjn (fun  (h : HF) => (
    zrz 0 h
  )) fun j21 =>
  LX0_isIdempotent_2 F a0 a1 j29 j21 F 0 h
set_option maxHeartbeats 4000000 in
set_option maxRecDepth 100000 in
theorem mX0_isIdempotent (F : Nat) (l : Launch) (g : zG) (B : Nat) (h : HF) (a0 : Nat) (a1 : Int) (ra0 : kt a0 = 3) (ra1 : rng a1) : CTi l g B yX0_isIdempotent cX0_isIdempotent 3 (some .boolean) 2 [.ref (B + a0), .int (ii a1)] h (fX0_isIdempotent F a0 a1 h) := by
  refine z_enterI (by decide) rfl (Nat.le_of_ble_eq_true rfl) ?_
  intro p e s m args below meth c ls o Q cx hp hl hf hQ
  have hl : lv_has ls 3 [(0, .ref (B + a0)), (1, .int (ii a1))] := hl
  unfold fX0_isIdempotent at hf
  refine z_iconst cx dX0_isIdempotent_0 ?_
  refine lv_istore_n (lv' := [(2, .int (ii 0)), (0, .ref (B + a0)), (1, .int (ii a1))]) cx.1 cx.2.1 dX0_isIdempotent_1 rfl hl (by decide) rfl (fun ls hl => ?_)
  refine z_jn hf (fun j => ∀  (h : HF) (H : Heap) (locs : List Loc) (ls : Array Slot), Hp g B s h H locs → lv_has ls 3 [] → j  h = some o → W p l e (rmn 2) s m args below meth c H locs 0 0 Q (F0 m 29 ls [])) ?_ (fun j29 hj29 hf => ?_)
  · intro  h H locs ls  hp hl hf
    refine z_iconst cx dX0_isIdempotent_29 ?_
    rw [hQ]; exact z_zret cx hp dX0_isIdempotent_30 hf
  refine z_jn hf (fun j => ∀  (h : HF) (H : Heap) (locs : List Loc) (ls : Array Slot), Hp g B s h H locs → lv_has ls 3 [] → j  h = some o → W p l e (rmn 2) s m args below meth c H locs 0 0 Q (F0 m 21 ls [])) ?_ (fun j21 hj21 hf => ?_)
  · intro  h H locs ls  hp hl hf
    refine z_iconst cx dX0_isIdempotent_21 ?_
    rw [hQ]; exact z_zret cx hp dX0_isIdempotent_22 hf
  exact wX0_isIdempotent_2 F cx a0 ra0 a1 ra1 j29 hj29 j21 hj21 F 0 h _ _ ls (by decide) hp (lv_sub hl [1, 2, 0] rfl) hf
theorem dX0_centreBits_0 : decode cX0_centreBits 0 = .ok (.iconst 0, 1) := by decide +kernel
theorem dX0_centreBits_1 : decode cX0_centreBits 1 = .ok (.istore_n 2, 1) := by decide +kernel
theorem dX0_centreBits_2 : decode cX0_centreBits 2 = .ok (.iconst 0, 1) := by decide +kernel
theorem dX0_centreBits_3 : decode cX0_centreBits 3 = .ok (.istore_n 3, 1) := by decide +kernel
theorem dX0_centreBits_4 : decode cX0_centreBits 4 = .ok (.iload_n 3, 1) := by decide +kernel
theorem dX0_centreBits_5 : decode cX0_centreBits 5 = .ok (.aload_n 0, 1) := by decide +kernel
theorem dX0_centreBits_6 : decode cX0_centreBits 6 = .ok (.getfield 21, 3) := by decide +kernel
theorem dX0_centreBits_9 : decode cX0_centreBits 9 = .ok (.if_icmp .ge 72, 3) := by decide +kernel
theorem dX0_centreBits_12 : decode cX0_centreBits 12 = .ok (.iconst 1, 1) := by decide +kernel
theorem dX0_centreBits_13 : decode cX0_centreBits 13 = .ok (.istore 4, 2) := by decide +kernel
theorem dX0_centreBits_15 : decode cX0_centreBits 15 = .ok (.iconst 0, 1) := by decide +kernel
theorem dX0_centreBits_16 : decode cX0_centreBits 16 = .ok (.istore 5, 2) := by decide +kernel
theorem dX0_centreBits_18 : decode cX0_centreBits 18 = .ok (.iload 5, 2) := by decide +kernel
theorem dX0_centreBits_20 : decode cX0_centreBits 20 = .ok (.aload_n 0, 1) := by decide +kernel
theorem dX0_centreBits_21 : decode cX0_centreBits 21 = .ok (.getfield 21, 3) := by decide +kernel
theorem dX0_centreBits_24 : decode cX0_centreBits 24 = .ok (.if_icmp .ge 40, 3) := by decide +kernel
theorem dX0_centreBits_27 : decode cX0_centreBits 27 = .ok (.iload 4, 2) := by decide +kernel
theorem dX0_centreBits_29 : decode cX0_centreBits 29 = .ok (.ifCond .eq 35, 3) := by decide +kernel
theorem dX0_centreBits_32 : decode cX0_centreBits 32 = .ok (.aload_n 0, 1) := by decide +kernel
theorem dX0_centreBits_33 : decode cX0_centreBits 33 = .ok (.iload_n 1, 1) := by decide +kernel
theorem dX0_centreBits_34 : decode cX0_centreBits 34 = .ok (.iload_n 3, 1) := by decide +kernel
theorem dX0_centreBits_35 : decode cX0_centreBits 35 = .ok (.iload 5, 2) := by decide +kernel
theorem dX0_centreBits_37 : decode cX0_centreBits 37 = .ok (.invokevirtual 99, 3) := by decide +kernel
theorem dX0_centreBits_40 : decode cX0_centreBits 40 = .ok (.aload_n 0, 1) := by decide +kernel
theorem dX0_centreBits_41 : decode cX0_centreBits 41 = .ok (.iload_n 1, 1) := by decide +kernel
theorem dX0_centreBits_42 : decode cX0_centreBits 42 = .ok (.iload 5, 2) := by decide +kernel
theorem dX0_centreBits_44 : decode cX0_centreBits 44 = .ok (.iload_n 3, 1) := by decide +kernel
theorem dX0_centreBits_45 : decode cX0_centreBits 45 = .ok (.invokevirtual 99, 3) := by decide +kernel
theorem dX0_centreBits_48 : decode cX0_centreBits 48 = .ok (.if_icmp .ne 7, 3) := by decide +kernel
theorem dX0_centreBits_51 : decode cX0_centreBits 51 = .ok (.iconst 1, 1) := by decide +kernel
theorem dX0_centreBits_52 : decode cX0_centreBits 52 = .ok (.goto 4, 3) := by decide +kernel
theorem dX0_centreBits_55 : decode cX0_centreBits 55 = .ok (.iconst 0, 1) := by decide +kernel
theorem dX0_centreBits_56 : decode cX0_centreBits 56 = .ok (.istore 4, 2) := by decide +kernel
theorem dX0_centreBits_58 : decode cX0_centreBits 58 = .ok (.iinc 5 1, 3) := by decide +kernel
theorem dX0_centreBits_61 : decode cX0_centreBits 61 = .ok (.goto (-43), 3) := by decide +kernel
theorem dX0_centreBits_64 : decode cX0_centreBits 64 = .ok (.iload 4, 2) := by decide +kernel
theorem dX0_centreBits_66 : decode cX0_centreBits 66 = .ok (.ifCond .eq 9, 3) := by decide +kernel
theorem dX0_centreBits_69 : decode cX0_centreBits 69 = .ok (.iload_n 2, 1) := by decide +kernel
theorem dX0_centreBits_70 : decode cX0_centreBits 70 = .ok (.iconst 1, 1) := by decide +kernel
theorem dX0_centreBits_71 : decode cX0_centreBits 71 = .ok (.iload_n 3, 1) := by decide +kernel
theorem dX0_centreBits_72 : decode cX0_centreBits 72 = .ok (.ishl, 1) := by decide +kernel
theorem dX0_centreBits_73 : decode cX0_centreBits 73 = .ok (.ior, 1) := by decide +kernel
theorem dX0_centreBits_74 : decode cX0_centreBits 74 = .ok (.istore_n 2, 1) := by decide +kernel
theorem dX0_centreBits_75 : decode cX0_centreBits 75 = .ok (.iinc 3 1, 3) := by decide +kernel
theorem dX0_centreBits_78 : decode cX0_centreBits 78 = .ok (.goto (-74), 3) := by decide +kernel
theorem dX0_centreBits_81 : decode cX0_centreBits 81 = .ok (.iload_n 2, 1) := by decide +kernel
theorem dX0_centreBits_82 : decode cX0_centreBits 82 = .ok (.ireturn, 1) := by decide +kernel
def LX0_centreBits_18 (F : Nat) (u0 : Nat) (u1 : Int) (u2 : Int) (u3 : Int) (k64 : Int → Int → Int → HF → RO) : Nat → Int → Int → HF → RO
  | 0, _, _, _ => none
  | n + 1, v4, v5, h =>
    zgf h u0 0 fun x4 =>
    if v5 < x4 then (
      if v4 = 0 then (
        k64 u2 u3 v4 h
      ) else (
        zbd (fX0_value F u0 u1 u3 v5 h) fun r5 h =>
        zbd (fX0_value F u0 u1 v5 u3 h) fun r6 h =>
        zjn (fun (x56_5 : Int) (y56_0 : Int) (h : HF) => (
          zlet (wr (x56_5 + 1)) fun x7 =>
          LX0_centreBits_18 F u0 u1 u2 u3 k64 n y56_0 x7 h
        )) fun j56 =>
        if r5 = r6 then (
          j56 v5 1 h
        ) else (
          j56 v5 0 h
        )
      )
    ) else (
      k64 u2 u3 v4 h
    )
set_option maxHeartbeats 4000000 in
set_option maxRecDepth 100000 in
theorem wX0_centreBits_18 {p : Program} {l : Launch} {e : Env} {s : State} {m : MethodId} {args : Array Value} {below : List Frame} {meth : Method} {c : Code} {Q : State → Prop} {g : zG} {B : Nat} {o : Int × HF} (F : Nat) (cx : Cx p s m args meth c cX0_centreBits 6 RX0 (some .int) g B) (u0 : Nat) (ru0 : kt u0 = 3) (u1 : Int) (ru1 : rng u1) (u2 : Int) (ru2 : rng u2) (u3 : Int) (ru3 : rng u3) (k64 : Int → Int → Int → HF → RO) (hk64 : ∀ (x2 : Int) (x3 : Int) (x4 : Int) (h : HF) (H : Heap) (locs : List Loc) (ls : Array Slot), rng x2 → rng x3 → rng x4 → Hp g B s h H locs → lv_has ls 6 [(0, .ref (B + u0)), (1, .int (ii u1)), (2, .int (ii x2)), (3, .int (ii x3)), (4, .int (ii x4))] → k64 x2 x3 x4 h = some o → W p l e (rmn 2) s m args below meth c H locs 0 0 Q (F0 m 64 ls [])) : ∀ (n : Nat) (v4 : Int) (v5 : Int) (h : HF) (H : Heap) (locs : List Loc) (ls : Array Slot), rng v4 → rng v5 → Hp g B s h H locs → lv_has ls 6 [(0, .ref (B + u0)), (1, .int (ii u1)), (2, .int (ii u2)), (3, .int (ii u3)), (4, .int (ii v4)), (5, .int (ii v5))] → LX0_centreBits_18 F u0 u1 u2 u3 k64 n v4 v5 h = some o → W p l e (rmn 2) s m args below meth c H locs 0 0 Q (F0 m 18 ls []) := by
  intro n
  induction n with
  | zero =>
    intro v4 v5 h H locs ls rv4 rv5 hp hl hf
    cases hf
  | succ n ih =>
    intro v4 v5 h H locs ls rv4 rv5 hp hl hf
    rw [LX0_centreBits_18] at hf
    refine lv_iload cx.1 cx.2.1 dX0_centreBits_18 (lv_at hl 5 rfl) ?_
    refine lv_aload_n cx.1 cx.2.1 dX0_centreBits_20 rfl (lv_at hl 0 rfl) ?_
    refine z_geti cx hp (T := TX0) 0 0 rfl zin_0 (by decide) (by decide) ru0 rfl fl_X0_21 dX0_centreBits_21 hf (fun x4 rx4 hf => ?_)
    refine z_icmp_ge cx rv5 rx4 (tgt := 64) dX0_centreBits_24 (by decide) hf (fun _ hf => ?_) (fun _ hf => ?_)
    · refine lv_iload cx.1 cx.2.1 dX0_centreBits_27 (lv_at hl 4 rfl) ?_
      refine z_if_eq cx rv4 (tgt := 64) dX0_centreBits_29 (by decide) hf (fun _ hf => ?_) (fun _ hf => ?_)
      · exact hk64 u2 u3 v4 h _ _ ls ru2 ru3 rv4 hp (lv_sub hl [0, 1, 2, 3, 4] rfl) hf
      · refine lv_aload_n cx.1 cx.2.1 dX0_centreBits_32 rfl (lv_at hl 0 rfl) ?_
        refine lv_iload_n cx.1 cx.2.1 dX0_centreBits_33 rfl (lv_at hl 1 rfl) ?_
        refine lv_iload_n cx.1 cx.2.1 dX0_centreBits_34 rfl (lv_at hl 3 rfl) ?_
        refine lv_iload cx.1 cx.2.1 dX0_centreBits_35 (lv_at hl 5 rfl) ?_
        refine z_ci cx hp (fun o' hx => zrunV (n := 2) (As := [.int (ii u1), .int (ii u3), .int (ii v5)]) (rest := []) cx hp (mX0_value F l g B h u0 u1 u3 v5 ru0 ru1 ru3 rv5 o' hx) 0 ru0 (by decide) rfl vw_X0_value ml_X0_99 (by decide) rfl hl.1 rfl (Nat.le_of_ble_eq_true rfl) dX0_centreBits_37) hf (fun r5 h H locs rr5 hp hf => ?_)
        refine lv_aload_n cx.1 cx.2.1 dX0_centreBits_40 rfl (lv_at hl 0 rfl) ?_
        refine lv_iload_n cx.1 cx.2.1 dX0_centreBits_41 rfl (lv_at hl 1 rfl) ?_
        refine lv_iload cx.1 cx.2.1 dX0_centreBits_42 (lv_at hl 5 rfl) ?_
        refine lv_iload_n cx.1 cx.2.1 dX0_centreBits_44 rfl (lv_at hl 3 rfl) ?_
        refine z_ci cx hp (fun o' hx => zrunV (n := 2) (As := [.int (ii u1), .int (ii v5), .int (ii u3)]) (rest := [.int (ii r5)]) cx hp (mX0_value F l g B h u0 u1 v5 u3 ru0 ru1 rv5 ru3 o' hx) 0 ru0 (by decide) rfl vw_X0_value ml_X0_99 (by decide) rfl hl.1 rfl (Nat.le_of_ble_eq_true rfl) dX0_centreBits_45) hf (fun r6 h H locs rr6 hp hf => ?_)
        refine z_jn hf (fun j => ∀ (x56_5 : Int) (y56_0 : Int) (h : HF) (H : Heap) (locs : List Loc) (ls : Array Slot), rng x56_5 → rng y56_0 → Hp g B s h H locs → lv_has ls 6 [(0, .ref (B + u0)), (1, .int (ii u1)), (2, .int (ii u2)), (3, .int (ii u3)), (5, .int (ii x56_5))] → j x56_5 y56_0 h = some o → W p l e (rmn 2) s m args below meth c H locs 0 0 Q (F0 m 56 ls [.int (ii y56_0)])) ?_ (fun j56 hj56 hf => ?_)
        · intro x56_5 y56_0 h H locs ls rx56_5 ry56_0 hp hl hf
          refine lv_istore (lv' := [(4, .int (ii y56_0)), (0, .ref (B + u0)), (1, .int (ii u1)), (2, .int (ii u2)), (3, .int (ii u3)), (5, .int (ii x56_5))]) cx.1 cx.2.1 dX0_centreBits_56 hl (by decide) rfl (fun ls hl => ?_)
          refine z_iinc cx (fun x7 => [(5, .int (ii x7)), (4, .int (ii y56_0)), (0, .ref (B + u0)), (1, .int (ii u1)), (2, .int (ii u2)), (3, .int (ii u3))]) dX0_centreBits_58 hl (k := 5) rfl (by decide) (fun _ => rfl) hf (fun x7 rx7 hf ls hl => ?_)
          refine lv_goto (tgt := 18) cx.1 cx.2.1 dX0_centreBits_61 (by decide) ?_
          exact ih y56_0 x7 h _ _ ls ry56_0 rx7 hp (lv_sub hl [2, 3, 4, 5, 1, 0] rfl) hf
        refine z_icmp_ne cx rr5 rr6 (tgt := 55) dX0_centreBits_48 (by decide) hf (fun _ hf => ?_) (fun _ hf => ?_)
        · refine z_iconst cx dX0_centreBits_51 ?_
          refine lv_goto (tgt := 56) cx.1 cx.2.1 dX0_centreBits_52 (by decide) ?_
          exact hj56 v5 1 h _ _ ls rv5 (by decide) hp (lv_sub hl [0, 1, 2, 3, 5] rfl) hf
        · refine z_iconst cx dX0_centreBits_55 ?_
          exact hj56 v5 0 h _ _ ls rv5 (by decide) hp (lv_sub hl [0, 1, 2, 3, 5] rfl) hf
    · exact hk64 u2 u3 v4 h _ _ ls ru2 ru3 rv4 hp (lv_sub hl [0, 1, 2, 3, 4] rfl) hf
def LX0_centreBits_4 (F : Nat) (u0 : Nat) (u1 : Int) (k81 : Int → HF → RO) : Nat → Int → Int → HF → RO
  | 0, _, _, _ => none
  | n + 1, v2, v3, h =>
    zgf h u0 0 fun x1 =>
    if v3 < x1 then (
      zjn (fun (x64_2 : Int) (x64_3 : Int) (x64_4 : Int) (h : HF) => (
        zjn (fun (x75_2 : Int) (x75_3 : Int) (h : HF) => (
          zlet (wr (x75_3 + 1)) fun x2 =>
          LX0_centreBits_4 F u0 u1 k81 n x75_2 x2 h
        )) fun j75 =>
        if x64_4 = 0 then (
          j75 x64_2 x64_3 h
        ) else (
          zlet (wor x64_2 (wshl 1 x64_3)) fun x3 =>
          j75 x3 x64_3 h
        )
      )) fun j64 =>
      LX0_centreBits_18 F u0 u1 v2 v3 j64 F 1 0 h
    ) else (
      k81 v2 h
    )
set_option maxHeartbeats 4000000 in
set_option maxRecDepth 100000 in
theorem wX0_centreBits_4 {p : Program} {l : Launch} {e : Env} {s : State} {m : MethodId} {args : Array Value} {below : List Frame} {meth : Method} {c : Code} {Q : State → Prop} {g : zG} {B : Nat} {o : Int × HF} (F : Nat) (cx : Cx p s m args meth c cX0_centreBits 6 RX0 (some .int) g B) (u0 : Nat) (ru0 : kt u0 = 3) (u1 : Int) (ru1 : rng u1) (k81 : Int → HF → RO) (hk81 : ∀ (x2 : Int) (h : HF) (H : Heap) (locs : List Loc) (ls : Array Slot), rng x2 → Hp g B s h H locs → lv_has ls 6 [(2, .int (ii x2))] → k81 x2 h = some o → W p l e (rmn 2) s m args below meth c H locs 0 0 Q (F0 m 81 ls [])) : ∀ (n : Nat) (v2 : Int) (v3 : Int) (h : HF) (H : Heap) (locs : List Loc) (ls : Array Slot), rng v2 → rng v3 → Hp g B s h H locs → lv_has ls 6 [(0, .ref (B + u0)), (1, .int (ii u1)), (2, .int (ii v2)), (3, .int (ii v3))] → LX0_centreBits_4 F u0 u1 k81 n v2 v3 h = some o → W p l e (rmn 2) s m args below meth c H locs 0 0 Q (F0 m 4 ls []) := by
  intro n
  induction n with
  | zero =>
    intro v2 v3 h H locs ls rv2 rv3 hp hl hf
    cases hf
  | succ n ih =>
    intro v2 v3 h H locs ls rv2 rv3 hp hl hf
    rw [LX0_centreBits_4] at hf
    refine lv_iload_n cx.1 cx.2.1 dX0_centreBits_4 rfl (lv_at hl 3 rfl) ?_
    refine lv_aload_n cx.1 cx.2.1 dX0_centreBits_5 rfl (lv_at hl 0 rfl) ?_
    refine z_geti cx hp (T := TX0) 0 0 rfl zin_0 (by decide) (by decide) ru0 rfl fl_X0_21 dX0_centreBits_6 hf (fun x1 rx1 hf => ?_)
    refine z_icmp_ge cx rv3 rx1 (tgt := 81) dX0_centreBits_9 (by decide) hf (fun _ hf => ?_) (fun _ hf => ?_)
    · refine z_iconst cx dX0_centreBits_12 ?_
      refine lv_istore (lv' := [(4, .int (ii 1)), (0, .ref (B + u0)), (1, .int (ii u1)), (2, .int (ii v2)), (3, .int (ii v3))]) cx.1 cx.2.1 dX0_centreBits_13 hl (by decide) rfl (fun ls hl => ?_)
      refine z_iconst cx dX0_centreBits_15 ?_
      refine lv_istore (lv' := [(5, .int (ii 0)), (4, .int (ii 1)), (0, .ref (B + u0)), (1, .int (ii u1)), (2, .int (ii v2)), (3, .int (ii v3))]) cx.1 cx.2.1 dX0_centreBits_16 hl (by decide) rfl (fun ls hl => ?_)
      refine z_jn hf (fun j => ∀ (x64_2 : Int) (x64_3 : Int) (x64_4 : Int) (h : HF) (H : Heap) (locs : List Loc) (ls : Array Slot), rng x64_2 → rng x64_3 → rng x64_4 → Hp g B s h H locs → lv_has ls 6 [(0, .ref (B + u0)), (1, .int (ii u1)), (2, .int (ii x64_2)), (3, .int (ii x64_3)), (4, .int (ii x64_4))] → j x64_2 x64_3 x64_4 h = some o → W p l e (rmn 2) s m args below meth c H locs 0 0 Q (F0 m 64 ls [])) ?_ (fun j64 hj64 hf => ?_)
      · intro x64_2 x64_3 x64_4 h H locs ls rx64_2 rx64_3 rx64_4 hp hl hf
        refine lv_iload cx.1 cx.2.1 dX0_centreBits_64 (lv_at hl 4 rfl) ?_
        refine z_jn hf (fun j => ∀ (x75_2 : Int) (x75_3 : Int) (h : HF) (H : Heap) (locs : List Loc) (ls : Array Slot), rng x75_2 → rng x75_3 → Hp g B s h H locs → lv_has ls 6 [(0, .ref (B + u0)), (1, .int (ii u1)), (2, .int (ii x75_2)), (3, .int (ii x75_3))] → j x75_2 x75_3 h = some o → W p l e (rmn 2) s m args below meth c H locs 0 0 Q (F0 m 75 ls [])) ?_ (fun j75 hj75 hf => ?_)
        · intro x75_2 x75_3 h H locs ls rx75_2 rx75_3 hp hl hf
          refine z_iinc cx (fun x2 => [(3, .int (ii x2)), (0, .ref (B + u0)), (1, .int (ii u1)), (2, .int (ii x75_2))]) dX0_centreBits_75 hl (k := 3) rfl (by decide) (fun _ => rfl) hf (fun x2 rx2 hf ls hl => ?_)
          refine lv_goto (tgt := 4) cx.1 cx.2.1 dX0_centreBits_78 (by decide) ?_
          exact ih x75_2 x2 h _ _ ls rx75_2 rx2 hp (lv_sub hl [1, 2, 3, 0] rfl) hf
        refine z_if_eq cx rx64_4 (tgt := 75) dX0_centreBits_66 (by decide) hf (fun _ hf => ?_) (fun _ hf => ?_)
        · exact hj75 x64_2 x64_3 h _ _ ls rx64_2 rx64_3 hp (lv_sub hl [0, 1, 2, 3] rfl) hf
        · refine lv_iload_n cx.1 cx.2.1 dX0_centreBits_69 rfl (lv_at hl 2 rfl) ?_
          refine z_iconst cx dX0_centreBits_70 ?_
          refine lv_iload_n cx.1 cx.2.1 dX0_centreBits_71 rfl (lv_at hl 3 rfl) ?_
          refine z_ishl cx dX0_centreBits_72 ?_
          refine z_ior cx dX0_centreBits_73 ?_
          refine z_let (rng_or _ _) hf (fun x3 rx3 hf => ?_)
          refine lv_istore_n (lv' := [(2, .int (ii x3)), (0, .ref (B + u0)), (1, .int (ii u1)), (3, .int (ii x64_3)), (4, .int (ii x64_4))]) cx.1 cx.2.1 dX0_centreBits_74 rfl hl (by decide) rfl (fun ls hl => ?_)
          exact hj75 x3 x64_3 h _ _ ls rx3 rx64_3 hp (lv_sub hl [1, 2, 0, 3] rfl) hf
      exact wX0_centreBits_18 F cx u0 ru0 u1 ru1 v2 rv2 v3 rv3 j64 hj64 F 1 0 h _ _ ls (by decide) (by decide) hp (lv_sub hl [2, 3, 4, 5, 1, 0] rfl) hf
    · exact hk81 v2 h _ _ ls rv2 hp (lv_sub hl [2] rfl) hf
def fX0_centreBits (F : Nat) (a0 : Nat) (a1 : Int) (h : HF) : RO :=
  zjn (fun (x81_2 : Int) (h : HF) => (
    some (x81_2, h)
  )) fun j81 =>
  LX0_centreBits_4 F a0 a1 j81 F 0 0 h
set_option maxHeartbeats 4000000 in
set_option maxRecDepth 100000 in
theorem mX0_centreBits (F : Nat) (l : Launch) (g : zG) (B : Nat) (h : HF) (a0 : Nat) (a1 : Int) (ra0 : kt a0 = 3) (ra1 : rng a1) : CTi l g B yX0_centreBits cX0_centreBits 6 (some .int) 2 [.ref (B + a0), .int (ii a1)] h (fX0_centreBits F a0 a1 h) := by
  refine z_enterI (by decide) rfl (Nat.le_of_ble_eq_true rfl) ?_
  intro p e s m args below meth c ls o Q cx hp hl hf hQ
  have hl : lv_has ls 6 [(0, .ref (B + a0)), (1, .int (ii a1))] := hl
  unfold fX0_centreBits at hf
  refine z_iconst cx dX0_centreBits_0 ?_
  refine lv_istore_n (lv' := [(2, .int (ii 0)), (0, .ref (B + a0)), (1, .int (ii a1))]) cx.1 cx.2.1 dX0_centreBits_1 rfl hl (by decide) rfl (fun ls hl => ?_)
  refine z_iconst cx dX0_centreBits_2 ?_
  refine lv_istore_n (lv' := [(3, .int (ii 0)), (2, .int (ii 0)), (0, .ref (B + a0)), (1, .int (ii a1))]) cx.1 cx.2.1 dX0_centreBits_3 rfl hl (by decide) rfl (fun ls hl => ?_)
  refine z_jn hf (fun j => ∀ (x81_2 : Int) (h : HF) (H : Heap) (locs : List Loc) (ls : Array Slot), rng x81_2 → Hp g B s h H locs → lv_has ls 6 [(2, .int (ii x81_2))] → j x81_2 h = some o → W p l e (rmn 2) s m args below meth c H locs 0 0 Q (F0 m 81 ls [])) ?_ (fun j81 hj81 hf => ?_)
  · intro x81_2 h H locs ls rx81_2 hp hl hf
    refine lv_iload_n cx.1 cx.2.1 dX0_centreBits_81 rfl (lv_at hl 0 rfl) ?_
    rw [hQ]; exact z_iret cx hp rx81_2 dX0_centreBits_82 hf
  exact wX0_centreBits_4 F cx a0 ra0 a1 ra1 j81 hj81 F 0 0 h _ _ ls (by decide) (by decide) hp (lv_sub hl [2, 3, 1, 0] rfl) hf
theorem dX0_allBits_0 : decode cX0_allBits 0 = .ok (.iconst 1, 1) := by decide +kernel
theorem dX0_allBits_1 : decode cX0_allBits 1 = .ok (.aload_n 0, 1) := by decide +kernel
theorem dX0_allBits_2 : decode cX0_allBits 2 = .ok (.getfield 21, 3) := by decide +kernel
theorem dX0_allBits_5 : decode cX0_allBits 5 = .ok (.ishl, 1) := by decide +kernel
theorem dX0_allBits_6 : decode cX0_allBits 6 = .ok (.iconst 1, 1) := by decide +kernel
theorem dX0_allBits_7 : decode cX0_allBits 7 = .ok (.isub, 1) := by decide +kernel
theorem dX0_allBits_8 : decode cX0_allBits 8 = .ok (.ireturn, 1) := by decide +kernel
def fX0_allBits (F : Nat) (a0 : Nat) (h : HF) : RO :=
  zgf h a0 0 fun x1 =>
  some (wr ((wshl 1 x1) - 1), h)
set_option maxHeartbeats 4000000 in
set_option maxRecDepth 100000 in
theorem mX0_allBits (F : Nat) (l : Launch) (g : zG) (B : Nat) (h : HF) (a0 : Nat) (ra0 : kt a0 = 3) : CTi l g B yX0_allBits cX0_allBits 1 (some .int) 0 [.ref (B + a0)] h (fX0_allBits F a0 h) := by
  refine z_enterI (by decide) rfl (Nat.le_of_ble_eq_true rfl) ?_
  intro p e s m args below meth c ls o Q cx hp hl hf hQ
  have hl : lv_has ls 1 [(0, .ref (B + a0))] := hl
  unfold fX0_allBits at hf
  refine z_iconst cx dX0_allBits_0 ?_
  refine lv_aload_n cx.1 cx.2.1 dX0_allBits_1 rfl (lv_at hl 0 rfl) ?_
  refine z_geti cx hp (T := TX0) 0 0 rfl zin_0 (by decide) (by decide) ra0 rfl fl_X0_21 dX0_allBits_2 hf (fun x1 rx1 hf => ?_)
  refine z_ishl cx dX0_allBits_5 ?_
  refine z_iconst cx dX0_allBits_6 ?_
  refine z_isub cx dX0_allBits_7 ?_
  rw [hQ]; exact z_iret cx hp (rng_wr _) dX0_allBits_8 hf
theorem dX1_hasRoom_0 : decode cX1_hasRoom 0 = .ok (.aload_n 0, 1) := by decide +kernel
theorem dX1_hasRoom_1 : decode cX1_hasRoom 1 = .ok (.getfield 21, 3) := by decide +kernel
theorem dX1_hasRoom_4 : decode cX1_hasRoom 4 = .ok (.iload_n 1, 1) := by decide +kernel
theorem dX1_hasRoom_5 : decode cX1_hasRoom 5 = .ok (.iadd, 1) := by decide +kernel
theorem dX1_hasRoom_6 : decode cX1_hasRoom 6 = .ok (.aload_n 0, 1) := by decide +kernel
theorem dX1_hasRoom_7 : decode cX1_hasRoom 7 = .ok (.getfield 15, 3) := by decide +kernel
theorem dX1_hasRoom_10 : decode cX1_hasRoom 10 = .ok (.arraylength, 1) := by decide +kernel
theorem dX1_hasRoom_11 : decode cX1_hasRoom 11 = .ok (.if_icmp .gt 7, 3) := by decide +kernel
theorem dX1_hasRoom_14 : decode cX1_hasRoom 14 = .ok (.iconst 1, 1) := by decide +kernel
theorem dX1_hasRoom_15 : decode cX1_hasRoom 15 = .ok (.goto 4, 3) := by decide +kernel
theorem dX1_hasRoom_18 : decode cX1_hasRoom 18 = .ok (.iconst 0, 1) := by decide +kernel
theorem dX1_hasRoom_19 : decode cX1_hasRoom 19 = .ok (.ireturn, 1) := by decide +kernel
def fX1_hasRoom (F : Nat) (a0 : Nat) (a1 : Int) (h : HF) : RO :=
  zgf h a0 1 fun x1 =>
  zjn (fun (y19_0 : Int) (h : HF) => (
    zrz y19_0 h
  )) fun j19 =>
  if (kl (a0 + 1) : Int) < wr (x1 + a1) then (
    j19 0 h
  ) else (
    j19 1 h
  )
set_option maxHeartbeats 4000000 in
set_option maxRecDepth 100000 in
theorem mX1_hasRoom (F : Nat) (l : Launch) (g : zG) (B : Nat) (h : HF) (a0 : Nat) (a1 : Int) (ra0 : kt a0 = 4) (ra1 : rng a1) : CTi l g B yX1_hasRoom cX1_hasRoom 2 (some .boolean) 0 [.ref (B + a0), .int (ii a1)] h (fX1_hasRoom F a0 a1 h) := by
  refine z_enterI (by decide) rfl (Nat.le_of_ble_eq_true rfl) ?_
  intro p e s m args below meth c ls o Q cx hp hl hf hQ
  have hl : lv_has ls 2 [(0, .ref (B + a0)), (1, .int (ii a1))] := hl
  unfold fX1_hasRoom at hf
  refine lv_aload_n cx.1 cx.2.1 dX1_hasRoom_0 rfl (lv_at hl 0 rfl) ?_
  refine z_geti cx hp (T := TX1) 1 1 rfl zin_1 (by decide) (by decide) ra0 rfl fl_X1_21 dX1_hasRoom_1 hf (fun x1 rx1 hf => ?_)
  refine lv_iload_n cx.1 cx.2.1 dX1_hasRoom_4 rfl (lv_at hl 1 rfl) ?_
  refine z_iadd cx dX1_hasRoom_5 ?_
  refine lv_aload_n cx.1 cx.2.1 dX1_hasRoom_6 rfl (lv_at hl 0 rfl) ?_
  refine z_gets cx hp (T := TX1) 1 0 (a0 + 1) rfl zin_1 (by decide) (by decide) ra0 rfl fl_X1_15 dX1_hasRoom_7 ?_
  refine z_alen cx hp (zs_1_0 a0 (kt_lt ra0 (by decide)) ra0) dX1_hasRoom_10 ?_
  refine z_jn hf (fun j => ∀ (y19_0 : Int) (h : HF) (H : Heap) (locs : List Loc) (ls : Array Slot), rng y19_0 → Hp g B s h H locs → lv_has ls 2 [] → j y19_0 h = some o → W p l e (rmn 0) s m args below meth c H locs 0 0 Q (F0 m 19 ls [.int (ii y19_0)])) ?_ (fun j19 hj19 hf => ?_)
  · intro y19_0 h H locs ls ry19_0 hp hl hf
    rw [hQ]; exact z_zret cx hp dX1_hasRoom_19 hf
  refine z_icmp_gt cx (rng_wr _) (rng_kl (zs_1_0 a0 (kt_lt ra0 (by decide)) ra0) (by decide)) (tgt := 18) dX1_hasRoom_11 (by decide) hf (fun _ hf => ?_) (fun _ hf => ?_)
  · refine z_iconst cx dX1_hasRoom_18 ?_
    exact hj19 0 h _ _ ls (by decide) hp (lv_sub hl [] rfl) hf
  · refine z_iconst cx dX1_hasRoom_14 ?_
    refine lv_goto (tgt := 19) cx.1 cx.2.1 dX1_hasRoom_15 (by decide) ?_
    exact hj19 1 h _ _ ls (by decide) hp (lv_sub hl [] rfl) hf
theorem dX1_addByte_0 : decode cX1_addByte 0 = .ok (.aload_n 0, 1) := by decide +kernel
theorem dX1_addByte_1 : decode cX1_addByte 1 = .ok (.iconst 1, 1) := by decide +kernel
theorem dX1_addByte_2 : decode cX1_addByte 2 = .ok (.invokevirtual 25, 3) := by decide +kernel
theorem dX1_addByte_5 : decode cX1_addByte 5 = .ok (.ifCond .eq 27, 3) := by decide +kernel
theorem dX1_addByte_8 : decode cX1_addByte 8 = .ok (.aload_n 0, 1) := by decide +kernel
theorem dX1_addByte_9 : decode cX1_addByte 9 = .ok (.getfield 15, 3) := by decide +kernel
theorem dX1_addByte_12 : decode cX1_addByte 12 = .ok (.aload_n 0, 1) := by decide +kernel
theorem dX1_addByte_13 : decode cX1_addByte 13 = .ok (.getfield 21, 3) := by decide +kernel
theorem dX1_addByte_16 : decode cX1_addByte 16 = .ok (.iload_n 1, 1) := by decide +kernel
theorem dX1_addByte_17 : decode cX1_addByte 17 = .ok (.sipush 255, 3) := by decide +kernel
theorem dX1_addByte_20 : decode cX1_addByte 20 = .ok (.iand, 1) := by decide +kernel
theorem dX1_addByte_21 : decode cX1_addByte 21 = .ok (.iastore, 1) := by decide +kernel
theorem dX1_addByte_22 : decode cX1_addByte 22 = .ok (.aload_n 0, 1) := by decide +kernel
theorem dX1_addByte_23 : decode cX1_addByte 23 = .ok (.dup, 1) := by decide +kernel
theorem dX1_addByte_24 : decode cX1_addByte 24 = .ok (.getfield 21, 3) := by decide +kernel
theorem dX1_addByte_27 : decode cX1_addByte 27 = .ok (.iconst 1, 1) := by decide +kernel
theorem dX1_addByte_28 : decode cX1_addByte 28 = .ok (.iadd, 1) := by decide +kernel
theorem dX1_addByte_29 : decode cX1_addByte 29 = .ok (.putfield 21, 3) := by decide +kernel
theorem dX1_addByte_32 : decode cX1_addByte 32 = .ok (.return_, 1) := by decide +kernel
def fX1_addByte (F : Nat) (a0 : Nat) (a1 : Int) (h : HF) : RO :=
  zbd (fX1_hasRoom F a0 1 h) fun r1 h =>
  zjn (fun  (h : HF) => (
    some (0, h)
  )) fun j32 =>
  if r1 = 0 then (
    j32  h
  ) else (
    zgf h a0 1 fun x2 =>
    zwr h (a0 + 1) x2 (wand a1 255) fun h =>
    zgf h a0 1 fun x3 =>
    zpf h a0 1 (wr (x3 + 1)) fun h =>
    j32  h
  )
set_option maxHeartbeats 4000000 in
set_option maxRecDepth 100000 in
theorem mX1_addByte (F : Nat) (l : Launch) (g : zG) (B : Nat) (h : HF) (a0 : Nat) (a1 : Int) (ra0 : kt a0 = 4) (ra1 : rng a1) : CTv l g B yX1_addByte cX1_addByte 2 1 [.ref (B + a0), .int (ii a1)] h (fX1_addByte F a0 a1 h) := by
  refine z_enterV (by decide) rfl (Nat.le_of_ble_eq_true rfl) ?_
  intro p e s m args below meth c ls o Q cx hp hl hf hQ
  have hl : lv_has ls 2 [(0, .ref (B + a0)), (1, .int (ii a1))] := hl
  unfold fX1_addByte at hf
  refine lv_aload_n cx.1 cx.2.1 dX1_addByte_0 rfl (lv_at hl 0 rfl) ?_
  refine z_iconst cx dX1_addByte_1 ?_
  refine z_ci cx hp (fun o' hx => zrunV (n := 1) (As := [.int (ii 1)]) (rest := []) cx hp (mX1_hasRoom F l g B h a0 1 ra0 (by decide) o' hx) 1 ra0 (by decide) rfl vw_X1_hasRoom ml_X1_25 (by decide) rfl hl.1 rfl (Nat.le_of_ble_eq_true rfl) dX1_addByte_2) hf (fun r1 h H locs rr1 hp hf => ?_)
  refine z_jn hf (fun j => ∀  (h : HF) (H : Heap) (locs : List Loc) (ls : Array Slot), Hp g B s h H locs → lv_has ls 2 [] → j  h = some o → W p l e (rmn 1) s m args below meth c H locs 0 0 Q (F0 m 32 ls [])) ?_ (fun j32 hj32 hf => ?_)
  · intro  h H locs ls  hp hl hf
    rw [hQ]; exact z_vret cx hp dX1_addByte_32 hf
  refine z_if_eq cx rr1 (tgt := 32) dX1_addByte_5 (by decide) hf (fun _ hf => ?_) (fun _ hf => ?_)
  · exact hj32  h _ _ ls  hp (lv_sub hl [] rfl) hf
  · refine lv_aload_n cx.1 cx.2.1 dX1_addByte_8 rfl (lv_at hl 0 rfl) ?_
    refine z_gets cx hp (T := TX1) 1 0 (a0 + 1) rfl zin_1 (by decide) (by decide) ra0 rfl fl_X1_15 dX1_addByte_9 ?_
    refine lv_aload_n cx.1 cx.2.1 dX1_addByte_12 rfl (lv_at hl 0 rfl) ?_
    refine z_geti cx hp (T := TX1) 1 1 rfl zin_1 (by decide) (by decide) ra0 rfl fl_X1_21 dX1_addByte_13 hf (fun x2 rx2 hf => ?_)
    refine lv_iload_n cx.1 cx.2.1 dX1_addByte_16 rfl (lv_at hl 1 rfl) ?_
    refine z_sipush cx (by decide) dX1_addByte_17 ?_
    refine z_iand cx dX1_addByte_20 ?_
    refine z_iast cx hp (zs_1_0 a0 (kt_lt ra0 (by decide)) ra0) rx2 (rng_and _ _) dX1_addByte_21 hf (fun h H locs hp hf => ?_)
    refine lv_aload_n cx.1 cx.2.1 dX1_addByte_22 rfl (lv_at hl 0 rfl) ?_
    refine lv_dup cx.1 cx.2.1 dX1_addByte_23 rfl ?_
    refine z_geti cx hp (T := TX1) 1 1 rfl zin_1 (by decide) (by decide) ra0 rfl fl_X1_21 dX1_addByte_24 hf (fun x3 rx3 hf => ?_)
    refine z_iconst cx dX1_addByte_27 ?_
    refine z_iadd cx dX1_addByte_28 ?_
    refine z_puti cx hp (T := TX1) tyX1 tyX1_ok nmX1 1 1 (rng_wr _) rfl zin_1 (by decide) (by decide) ra0 rfl rfl rfl fl_X1_21 dX1_addByte_29 hf (fun h H locs hp hf => ?_)
    exact hj32  h _ _ ls  hp (lv_sub hl [] rfl) hf
theorem dX1_addNumber_0 : decode cX1_addNumber 0 = .ok (.bipush 24, 2) := by decide +kernel
theorem dX1_addNumber_2 : decode cX1_addNumber 2 = .ok (.istore_n 2, 1) := by decide +kernel
theorem dX1_addNumber_3 : decode cX1_addNumber 3 = .ok (.iload_n 2, 1) := by decide +kernel
theorem dX1_addNumber_4 : decode cX1_addNumber 4 = .ok (.ifCond .lt 16, 3) := by decide +kernel
theorem dX1_addNumber_7 : decode cX1_addNumber 7 = .ok (.aload_n 0, 1) := by decide +kernel
theorem dX1_addNumber_8 : decode cX1_addNumber 8 = .ok (.iload_n 1, 1) := by decide +kernel
theorem dX1_addNumber_9 : decode cX1_addNumber 9 = .ok (.iload_n 2, 1) := by decide +kernel
theorem dX1_addNumber_10 : decode cX1_addNumber 10 = .ok (.iushr, 1) := by decide +kernel
theorem dX1_addNumber_11 : decode cX1_addNumber 11 = .ok (.invokevirtual 29, 3) := by decide +kernel
theorem dX1_addNumber_14 : decode cX1_addNumber 14 = .ok (.iinc 2 (-8), 3) := by decide +kernel
theorem dX1_addNumber_17 : decode cX1_addNumber 17 = .ok (.goto (-14), 3) := by decide +kernel
theorem dX1_addNumber_20 : decode cX1_addNumber 20 = .ok (.return_, 1) := by decide +kernel
def LX1_addNumber_3 (F : Nat) (u0 : Nat) (u1 : Int) (k20 : HF → RO) : Nat → Int → HF → RO
  | 0, _, _ => none
  | n + 1, v2, h =>
    if v2 < 0 then (
      k20  h
    ) else (
      zbd (fX1_addByte F u0 (wushr u1 v2) h) fun _ h =>
      zlet (wr (v2 + (-8))) fun x2 =>
      LX1_addNumber_3 F u0 u1 k20 n x2 h
    )
set_option maxHeartbeats 4000000 in
set_option maxRecDepth 100000 in
theorem wX1_addNumber_3 {p : Program} {l : Launch} {e : Env} {s : State} {m : MethodId} {args : Array Value} {below : List Frame} {meth : Method} {c : Code} {Q : State → Prop} {g : zG} {B : Nat} {o : Int × HF} (F : Nat) (cx : Cx p s m args meth c cX1_addNumber 3 RX1 none g B) (u0 : Nat) (ru0 : kt u0 = 4) (u1 : Int) (ru1 : rng u1) (k20 : HF → RO) (hk20 : ∀  (h : HF) (H : Heap) (locs : List Loc) (ls : Array Slot), Hp g B s h H locs → lv_has ls 3 [] → k20  h = some o → W p l e (rmn 2) s m args below meth c H locs 0 0 Q (F0 m 20 ls [])) : ∀ (n : Nat) (v2 : Int) (h : HF) (H : Heap) (locs : List Loc) (ls : Array Slot), rng v2 → Hp g B s h H locs → lv_has ls 3 [(0, .ref (B + u0)), (1, .int (ii u1)), (2, .int (ii v2))] → LX1_addNumber_3 F u0 u1 k20 n v2 h = some o → W p l e (rmn 2) s m args below meth c H locs 0 0 Q (F0 m 3 ls []) := by
  intro n
  induction n with
  | zero =>
    intro v2 h H locs ls rv2 hp hl hf
    cases hf
  | succ n ih =>
    intro v2 h H locs ls rv2 hp hl hf
    rw [LX1_addNumber_3] at hf
    refine lv_iload_n cx.1 cx.2.1 dX1_addNumber_3 rfl (lv_at hl 2 rfl) ?_
    refine z_if_lt cx rv2 (tgt := 20) dX1_addNumber_4 (by decide) hf (fun _ hf => ?_) (fun _ hf => ?_)
    · exact hk20  h _ _ ls  hp (lv_sub hl [] rfl) hf
    · refine lv_aload_n cx.1 cx.2.1 dX1_addNumber_7 rfl (lv_at hl 0 rfl) ?_
      refine lv_iload_n cx.1 cx.2.1 dX1_addNumber_8 rfl (lv_at hl 1 rfl) ?_
      refine lv_iload_n cx.1 cx.2.1 dX1_addNumber_9 rfl (lv_at hl 2 rfl) ?_
      refine z_iushr cx dX1_addNumber_10 ?_
      refine z_cv cx hp (fun o' hx => zrunV (n := 2) (As := [.int (ii (wushr u1 v2))]) (rest := []) cx hp (mX1_addByte F l g B h u0 (wushr u1 v2) ru0 (rng_ushr _ _) o' hx) 1 ru0 (by decide) rfl vw_X1_addByte ml_X1_29 (by decide) rfl hl.1 rfl (Nat.le_of_ble_eq_true rfl) dX1_addNumber_11) hf (fun _ h H locs hp hf => ?_)
      refine z_iinc cx (fun x2 => [(2, .int (ii x2)), (0, .ref (B + u0)), (1, .int (ii u1))]) dX1_addNumber_14 hl (k := 2) rfl (by decide) (fun _ => rfl) hf (fun x2 rx2 hf ls hl => ?_)
      refine lv_goto (tgt := 3) cx.1 cx.2.1 dX1_addNumber_17 (by decide) ?_
      exact ih x2 h _ _ ls rx2 hp (lv_sub hl [1, 2, 0] rfl) hf
def fX1_addNumber (F : Nat) (a0 : Nat) (a1 : Int) (h : HF) : RO :=
  zjn (fun  (h : HF) => (
    some (0, h)
  )) fun j20 =>
  LX1_addNumber_3 F a0 a1 j20 F 24 h
set_option maxHeartbeats 4000000 in
set_option maxRecDepth 100000 in
theorem mX1_addNumber (F : Nat) (l : Launch) (g : zG) (B : Nat) (h : HF) (a0 : Nat) (a1 : Int) (ra0 : kt a0 = 4) (ra1 : rng a1) : CTv l g B yX1_addNumber cX1_addNumber 3 2 [.ref (B + a0), .int (ii a1)] h (fX1_addNumber F a0 a1 h) := by
  refine z_enterV (by decide) rfl (Nat.le_of_ble_eq_true rfl) ?_
  intro p e s m args below meth c ls o Q cx hp hl hf hQ
  have hl : lv_has ls 3 [(0, .ref (B + a0)), (1, .int (ii a1))] := hl
  unfold fX1_addNumber at hf
  refine z_bipush cx (by decide) dX1_addNumber_0 ?_
  refine lv_istore_n (lv' := [(2, .int (ii 24)), (0, .ref (B + a0)), (1, .int (ii a1))]) cx.1 cx.2.1 dX1_addNumber_2 rfl hl (by decide) rfl (fun ls hl => ?_)
  refine z_jn hf (fun j => ∀  (h : HF) (H : Heap) (locs : List Loc) (ls : Array Slot), Hp g B s h H locs → lv_has ls 3 [] → j  h = some o → W p l e (rmn 2) s m args below meth c H locs 0 0 Q (F0 m 20 ls [])) ?_ (fun j20 hj20 hf => ?_)
  · intro  h H locs ls  hp hl hf
    rw [hQ]; exact z_vret cx hp dX1_addNumber_20 hf
  exact wX1_addNumber_3 F cx a0 ra0 a1 ra1 j20 hj20 F 24 h _ _ ls (by decide) hp (lv_sub hl [1, 2, 0] rfl) hf
theorem dX1_byteAt_0 : decode cX1_byteAt 0 = .ok (.iload_n 1, 1) := by decide +kernel
theorem dX1_byteAt_1 : decode cX1_byteAt 1 = .ok (.ifCond .lt 11, 3) := by decide +kernel
theorem dX1_byteAt_4 : decode cX1_byteAt 4 = .ok (.iload_n 1, 1) := by decide +kernel
theorem dX1_byteAt_5 : decode cX1_byteAt 5 = .ok (.aload_n 0, 1) := by decide +kernel
theorem dX1_byteAt_6 : decode cX1_byteAt 6 = .ok (.getfield 21, 3) := by decide +kernel
theorem dX1_byteAt_9 : decode cX1_byteAt 9 = .ok (.if_icmp .lt 7, 3) := by decide +kernel
theorem dX1_byteAt_16 : decode cX1_byteAt 16 = .ok (.aload_n 0, 1) := by decide +kernel
theorem dX1_byteAt_17 : decode cX1_byteAt 17 = .ok (.getfield 15, 3) := by decide +kernel
theorem dX1_byteAt_20 : decode cX1_byteAt 20 = .ok (.iload_n 1, 1) := by decide +kernel
theorem dX1_byteAt_21 : decode cX1_byteAt 21 = .ok (.iaload, 1) := by decide +kernel
theorem dX1_byteAt_12 : decode cX1_byteAt 12 = .ok (.iconst (-1), 1) := by decide +kernel
theorem dX1_byteAt_13 : decode cX1_byteAt 13 = .ok (.goto 9, 3) := by decide +kernel
theorem dX1_byteAt_22 : decode cX1_byteAt 22 = .ok (.ireturn, 1) := by decide +kernel
def fX1_byteAt (F : Nat) (a0 : Nat) (a1 : Int) (h : HF) : RO :=
  zjn (fun (y22_0 : Int) (h : HF) => (
    some (y22_0, h)
  )) fun j22 =>
  zjn (fun  (h : HF) => (
    j22 (-1) h
  )) fun j12 =>
  if a1 < 0 then (
    j12  h
  ) else (
    zgf h a0 1 fun x1 =>
    if a1 < x1 then (
      zrd h (a0 + 1) a1 fun x2 =>
      j22 x2 h
    ) else (
      j12  h
    )
  )
set_option maxHeartbeats 4000000 in
set_option maxRecDepth 100000 in
theorem mX1_byteAt (F : Nat) (l : Launch) (g : zG) (B : Nat) (h : HF) (a0 : Nat) (a1 : Int) (ra0 : kt a0 = 4) (ra1 : rng a1) : CTi l g B yX1_byteAt cX1_byteAt 2 (some .int) 0 [.ref (B + a0), .int (ii a1)] h (fX1_byteAt F a0 a1 h) := by
  refine z_enterI (by decide) rfl (Nat.le_of_ble_eq_true rfl) ?_
  intro p e s m args below meth c ls o Q cx hp hl hf hQ
  have hl : lv_has ls 2 [(0, .ref (B + a0)), (1, .int (ii a1))] := hl
  unfold fX1_byteAt at hf
  refine lv_iload_n cx.1 cx.2.1 dX1_byteAt_0 rfl (lv_at hl 1 rfl) ?_
  refine z_jn hf (fun j => ∀ (y22_0 : Int) (h : HF) (H : Heap) (locs : List Loc) (ls : Array Slot), rng y22_0 → Hp g B s h H locs → lv_has ls 2 [] → j y22_0 h = some o → W p l e (rmn 0) s m args below meth c H locs 0 0 Q (F0 m 22 ls [.int (ii y22_0)])) ?_ (fun j22 hj22 hf => ?_)
  · intro y22_0 h H locs ls ry22_0 hp hl hf
    rw [hQ]; exact z_iret cx hp ry22_0 dX1_byteAt_22 hf
  refine z_jn hf (fun j => ∀  (h : HF) (H : Heap) (locs : List Loc) (ls : Array Slot), Hp g B s h H locs → lv_has ls 2 [] → j  h = some o → W p l e (rmn 0) s m args below meth c H locs 0 0 Q (F0 m 12 ls [])) ?_ (fun j12 hj12 hf => ?_)
  · intro  h H locs ls  hp hl hf
    refine z_iconst cx dX1_byteAt_12 ?_
    refine lv_goto (tgt := 22) cx.1 cx.2.1 dX1_byteAt_13 (by decide) ?_
    exact hj22 (-1) h _ _ ls (by decide) hp (lv_sub hl [] rfl) hf
  refine z_if_lt cx ra1 (tgt := 12) dX1_byteAt_1 (by decide) hf (fun _ hf => ?_) (fun _ hf => ?_)
  · exact hj12  h _ _ ls  hp (lv_sub hl [] rfl) hf
  · refine lv_iload_n cx.1 cx.2.1 dX1_byteAt_4 rfl (lv_at hl 1 rfl) ?_
    refine lv_aload_n cx.1 cx.2.1 dX1_byteAt_5 rfl (lv_at hl 0 rfl) ?_
    refine z_geti cx hp (T := TX1) 1 1 rfl zin_1 (by decide) (by decide) ra0 rfl fl_X1_21 dX1_byteAt_6 hf (fun x1 rx1 hf => ?_)
    refine z_icmp_lt cx ra1 rx1 (tgt := 16) dX1_byteAt_9 (by decide) hf (fun _ hf => ?_) (fun _ hf => ?_)
    · refine lv_aload_n cx.1 cx.2.1 dX1_byteAt_16 rfl (lv_at hl 0 rfl) ?_
      refine z_gets cx hp (T := TX1) 1 0 (a0 + 1) rfl zin_1 (by decide) (by decide) ra0 rfl fl_X1_15 dX1_byteAt_17 ?_
      refine lv_iload_n cx.1 cx.2.1 dX1_byteAt_20 rfl (lv_at hl 1 rfl) ?_
      refine z_iald cx hp (zs_1_0 a0 (kt_lt ra0 (by decide)) ra0) ra1 dX1_byteAt_21 hf (fun x2 rx2 hf => ?_)
      exact hj22 x2 h _ _ ls rx2 hp (lv_sub hl [] rfl) hf
    · exact hj12  h _ _ ls  hp (lv_sub hl [] rfl) hf
theorem dX2_nextPartition_0 : decode cX2_nextPartition 0 = .ok (.aload_n 0, 1) := by decide +kernel
theorem dX2_nextPartition_1 : decode cX2_nextPartition 1 = .ok (.getfield 21, 3) := by decide +kernel
theorem dX2_nextPartition_4 : decode cX2_nextPartition 4 = .ok (.getfield 39, 3) := by decide +kernel
theorem dX2_nextPartition_7 : decode cX2_nextPartition 7 = .ok (.iconst 1, 1) := by decide +kernel
theorem dX2_nextPartition_8 : decode cX2_nextPartition 8 = .ok (.isub, 1) := by decide +kernel
theorem dX2_nextPartition_9 : decode cX2_nextPartition 9 = .ok (.istore_n 1, 1) := by decide +kernel
theorem dX2_nextPartition_10 : decode cX2_nextPartition 10 = .ok (.iload_n 1, 1) := by decide +kernel
theorem dX2_nextPartition_11 : decode cX2_nextPartition 11 = .ok (.ifCond .le 65, 3) := by decide +kernel
theorem dX2_nextPartition_14 : decode cX2_nextPartition 14 = .ok (.aload_n 0, 1) := by decide +kernel
theorem dX2_nextPartition_15 : decode cX2_nextPartition 15 = .ok (.getfield 15, 3) := by decide +kernel
theorem dX2_nextPartition_18 : decode cX2_nextPartition 18 = .ok (.iload_n 1, 1) := by decide +kernel
theorem dX2_nextPartition_19 : decode cX2_nextPartition 19 = .ok (.iaload, 1) := by decide +kernel
theorem dX2_nextPartition_20 : decode cX2_nextPartition 20 = .ok (.iload_n 1, 1) := by decide +kernel
theorem dX2_nextPartition_21 : decode cX2_nextPartition 21 = .ok (.if_icmp .eq 42, 3) := by decide +kernel
theorem dX2_nextPartition_24 : decode cX2_nextPartition 24 = .ok (.aload_n 0, 1) := by decide +kernel
theorem dX2_nextPartition_25 : decode cX2_nextPartition 25 = .ok (.getfield 15, 3) := by decide +kernel
theorem dX2_nextPartition_28 : decode cX2_nextPartition 28 = .ok (.iload_n 1, 1) := by decide +kernel
theorem dX2_nextPartition_29 : decode cX2_nextPartition 29 = .ok (.iaload, 1) := by decide +kernel
theorem dX2_nextPartition_30 : decode cX2_nextPartition 30 = .ok (.iconst 1, 1) := by decide +kernel
theorem dX2_nextPartition_31 : decode cX2_nextPartition 31 = .ok (.iadd, 1) := by decide +kernel
theorem dX2_nextPartition_32 : decode cX2_nextPartition 32 = .ok (.istore_n 2, 1) := by decide +kernel
theorem dX2_nextPartition_33 : decode cX2_nextPartition 33 = .ok (.iload_n 2, 1) := by decide +kernel
theorem dX2_nextPartition_34 : decode cX2_nextPartition 34 = .ok (.iload_n 1, 1) := by decide +kernel
theorem dX2_nextPartition_35 : decode cX2_nextPartition 35 = .ok (.if_icmp .ge 19, 3) := by decide +kernel
theorem dX2_nextPartition_38 : decode cX2_nextPartition 38 = .ok (.aload_n 0, 1) := by decide +kernel
theorem dX2_nextPartition_39 : decode cX2_nextPartition 39 = .ok (.getfield 15, 3) := by decide +kernel
theorem dX2_nextPartition_42 : decode cX2_nextPartition 42 = .ok (.iload_n 2, 1) := by decide +kernel
theorem dX2_nextPartition_43 : decode cX2_nextPartition 43 = .ok (.iaload, 1) := by decide +kernel
theorem dX2_nextPartition_44 : decode cX2_nextPartition 44 = .ok (.iload_n 2, 1) := by decide +kernel
theorem dX2_nextPartition_45 : decode cX2_nextPartition 45 = .ok (.if_icmp .eq 9, 3) := by decide +kernel
theorem dX2_nextPartition_48 : decode cX2_nextPartition 48 = .ok (.iinc 2 1, 3) := by decide +kernel
theorem dX2_nextPartition_51 : decode cX2_nextPartition 51 = .ok (.goto (-18), 3) := by decide +kernel
theorem dX2_nextPartition_54 : decode cX2_nextPartition 54 = .ok (.aload_n 0, 1) := by decide +kernel
theorem dX2_nextPartition_55 : decode cX2_nextPartition 55 = .ok (.getfield 15, 3) := by decide +kernel
theorem dX2_nextPartition_58 : decode cX2_nextPartition 58 = .ok (.iload_n 1, 1) := by decide +kernel
theorem dX2_nextPartition_59 : decode cX2_nextPartition 59 = .ok (.iload_n 2, 1) := by decide +kernel
theorem dX2_nextPartition_60 : decode cX2_nextPartition 60 = .ok (.iastore, 1) := by decide +kernel
theorem dX2_nextPartition_61 : decode cX2_nextPartition 61 = .ok (.iconst 1, 1) := by decide +kernel
theorem dX2_nextPartition_62 : decode cX2_nextPartition 62 = .ok (.ireturn, 1) := by decide +kernel
theorem dX2_nextPartition_63 : decode cX2_nextPartition 63 = .ok (.aload_n 0, 1) := by decide +kernel
theorem dX2_nextPartition_64 : decode cX2_nextPartition 64 = .ok (.getfield 15, 3) := by decide +kernel
theorem dX2_nextPartition_67 : decode cX2_nextPartition 67 = .ok (.iload_n 1, 1) := by decide +kernel
theorem dX2_nextPartition_68 : decode cX2_nextPartition 68 = .ok (.iconst 0, 1) := by decide +kernel
theorem dX2_nextPartition_69 : decode cX2_nextPartition 69 = .ok (.iastore, 1) := by decide +kernel
theorem dX2_nextPartition_70 : decode cX2_nextPartition 70 = .ok (.iinc 1 (-1), 3) := by decide +kernel
theorem dX2_nextPartition_73 : decode cX2_nextPartition 73 = .ok (.goto (-63), 3) := by decide +kernel
theorem dX2_nextPartition_76 : decode cX2_nextPartition 76 = .ok (.iconst 0, 1) := by decide +kernel
theorem dX2_nextPartition_77 : decode cX2_nextPartition 77 = .ok (.ireturn, 1) := by decide +kernel
def LX2_nextPartition_33 (F : Nat) (u0 : Nat) (u1 : Int) (k54 : Int → Int → HF → RO) : Nat → Int → HF → RO
  | 0, _, _ => none
  | n + 1, v2, h =>
    if v2 < u1 then (
      zrd h (u0 + 2) v2 fun x6 =>
      if x6 = v2 then (
        k54 u1 v2 h
      ) else (
        zlet (wr (v2 + 1)) fun x7 =>
        LX2_nextPartition_33 F u0 u1 k54 n x7 h
      )
    ) else (
      k54 u1 v2 h
    )
set_option maxHeartbeats 4000000 in
set_option maxRecDepth 100000 in
theorem wX2_nextPartition_33 {p : Program} {l : Launch} {e : Env} {s : State} {m : MethodId} {args : Array Value} {below : List Frame} {meth : Method} {c : Code} {Q : State → Prop} {g : zG} {B : Nat} {o : Int × HF} (F : Nat) (cx : Cx p s m args meth c cX2_nextPartition 3 RX2 (some .boolean) g B) (u0 : Nat) (ru0 : kt u0 = 5) (u1 : Int) (ru1 : rng u1) (k54 : Int → Int → HF → RO) (hk54 : ∀ (x1 : Int) (x2 : Int) (h : HF) (H : Heap) (locs : List Loc) (ls : Array Slot), rng x1 → rng x2 → Hp g B s h H locs → lv_has ls 3 [(0, .ref (B + u0)), (1, .int (ii x1)), (2, .int (ii x2))] → k54 x1 x2 h = some o → W p l e (rmn 0) s m args below meth c H locs 0 0 Q (F0 m 54 ls [])) : ∀ (n : Nat) (v2 : Int) (h : HF) (H : Heap) (locs : List Loc) (ls : Array Slot), rng v2 → Hp g B s h H locs → lv_has ls 3 [(0, .ref (B + u0)), (1, .int (ii u1)), (2, .int (ii v2))] → LX2_nextPartition_33 F u0 u1 k54 n v2 h = some o → W p l e (rmn 0) s m args below meth c H locs 0 0 Q (F0 m 33 ls []) := by
  intro n
  induction n with
  | zero =>
    intro v2 h H locs ls rv2 hp hl hf
    cases hf
  | succ n ih =>
    intro v2 h H locs ls rv2 hp hl hf
    rw [LX2_nextPartition_33] at hf
    refine lv_iload_n cx.1 cx.2.1 dX2_nextPartition_33 rfl (lv_at hl 2 rfl) ?_
    refine lv_iload_n cx.1 cx.2.1 dX2_nextPartition_34 rfl (lv_at hl 1 rfl) ?_
    refine z_icmp_ge cx rv2 ru1 (tgt := 54) dX2_nextPartition_35 (by decide) hf (fun _ hf => ?_) (fun _ hf => ?_)
    · refine lv_aload_n cx.1 cx.2.1 dX2_nextPartition_38 rfl (lv_at hl 0 rfl) ?_
      refine z_gets cx hp (T := TX2) 2 2 (u0 + 2) rfl zin_2 (by decide) (by decide) ru0 rfl fl_X2_15 dX2_nextPartition_39 ?_
      refine lv_iload_n cx.1 cx.2.1 dX2_nextPartition_42 rfl (lv_at hl 2 rfl) ?_
      refine z_iald cx hp (zs_2_2 u0 (kt_lt ru0 (by decide)) ru0) rv2 dX2_nextPartition_43 hf (fun x6 rx6 hf => ?_)
      refine lv_iload_n cx.1 cx.2.1 dX2_nextPartition_44 rfl (lv_at hl 2 rfl) ?_
      refine z_icmp_eq cx rx6 rv2 (tgt := 54) dX2_nextPartition_45 (by decide) hf (fun _ hf => ?_) (fun _ hf => ?_)
      · exact hk54 u1 v2 h _ _ ls ru1 rv2 hp (lv_sub hl [0, 1, 2] rfl) hf
      · refine z_iinc cx (fun x7 => [(2, .int (ii x7)), (0, .ref (B + u0)), (1, .int (ii u1))]) dX2_nextPartition_48 hl (k := 2) rfl (by decide) (fun _ => rfl) hf (fun x7 rx7 hf ls hl => ?_)
        refine lv_goto (tgt := 33) cx.1 cx.2.1 dX2_nextPartition_51 (by decide) ?_
        exact ih x7 h _ _ ls rx7 hp (lv_sub hl [1, 2, 0] rfl) hf
    · exact hk54 u1 v2 h _ _ ls ru1 rv2 hp (lv_sub hl [0, 1, 2] rfl) hf
def LX2_nextPartition_10 (F : Nat) (u0 : Nat) (k76 : HF → RO) (k24 : Int → HF → RO) : Nat → Int → HF → RO
  | 0, _, _ => none
  | n + 1, v1, h =>
    if 0 < v1 then (
      zrd h (u0 + 2) v1 fun x8 =>
      if x8 = v1 then (
        zwr h (u0 + 2) v1 0 fun h =>
        zlet (wr (v1 + (-1))) fun x9 =>
        LX2_nextPartition_10 F u0 k76 k24 n x9 h
      ) else (
        k24 v1 h
      )
    ) else (
      k76  h
    )
set_option maxHeartbeats 4000000 in
set_option maxRecDepth 100000 in
theorem wX2_nextPartition_10 {p : Program} {l : Launch} {e : Env} {s : State} {m : MethodId} {args : Array Value} {below : List Frame} {meth : Method} {c : Code} {Q : State → Prop} {g : zG} {B : Nat} {o : Int × HF} (F : Nat) (cx : Cx p s m args meth c cX2_nextPartition 3 RX2 (some .boolean) g B) (u0 : Nat) (ru0 : kt u0 = 5) (k76 : HF → RO) (hk76 : ∀  (h : HF) (H : Heap) (locs : List Loc) (ls : Array Slot), Hp g B s h H locs → lv_has ls 3 [] → k76  h = some o → W p l e (rmn 0) s m args below meth c H locs 0 0 Q (F0 m 76 ls [])) (k24 : Int → HF → RO) (hk24 : ∀ (x1 : Int) (h : HF) (H : Heap) (locs : List Loc) (ls : Array Slot), rng x1 → Hp g B s h H locs → lv_has ls 3 [(0, .ref (B + u0)), (1, .int (ii x1))] → k24 x1 h = some o → W p l e (rmn 0) s m args below meth c H locs 0 0 Q (F0 m 24 ls [])) : ∀ (n : Nat) (v1 : Int) (h : HF) (H : Heap) (locs : List Loc) (ls : Array Slot), rng v1 → Hp g B s h H locs → lv_has ls 3 [(0, .ref (B + u0)), (1, .int (ii v1))] → LX2_nextPartition_10 F u0 k76 k24 n v1 h = some o → W p l e (rmn 0) s m args below meth c H locs 0 0 Q (F0 m 10 ls []) := by
  intro n
  induction n with
  | zero =>
    intro v1 h H locs ls rv1 hp hl hf
    cases hf
  | succ n ih =>
    intro v1 h H locs ls rv1 hp hl hf
    rw [LX2_nextPartition_10] at hf
    refine lv_iload_n cx.1 cx.2.1 dX2_nextPartition_10 rfl (lv_at hl 1 rfl) ?_
    refine z_if_le cx rv1 (tgt := 76) dX2_nextPartition_11 (by decide) hf (fun _ hf => ?_) (fun _ hf => ?_)
    · refine lv_aload_n cx.1 cx.2.1 dX2_nextPartition_14 rfl (lv_at hl 0 rfl) ?_
      refine z_gets cx hp (T := TX2) 2 2 (u0 + 2) rfl zin_2 (by decide) (by decide) ru0 rfl fl_X2_15 dX2_nextPartition_15 ?_
      refine lv_iload_n cx.1 cx.2.1 dX2_nextPartition_18 rfl (lv_at hl 1 rfl) ?_
      refine z_iald cx hp (zs_2_2 u0 (kt_lt ru0 (by decide)) ru0) rv1 dX2_nextPartition_19 hf (fun x8 rx8 hf => ?_)
      refine lv_iload_n cx.1 cx.2.1 dX2_nextPartition_20 rfl (lv_at hl 1 rfl) ?_
      refine z_icmp_eq cx rx8 rv1 (tgt := 63) dX2_nextPartition_21 (by decide) hf (fun _ hf => ?_) (fun _ hf => ?_)
      · refine lv_aload_n cx.1 cx.2.1 dX2_nextPartition_63 rfl (lv_at hl 0 rfl) ?_
        refine z_gets cx hp (T := TX2) 2 2 (u0 + 2) rfl zin_2 (by decide) (by decide) ru0 rfl fl_X2_15 dX2_nextPartition_64 ?_
        refine lv_iload_n cx.1 cx.2.1 dX2_nextPartition_67 rfl (lv_at hl 1 rfl) ?_
        refine z_iconst cx dX2_nextPartition_68 ?_
        refine z_iast cx hp (zs_2_2 u0 (kt_lt ru0 (by decide)) ru0) rv1 (by decide) dX2_nextPartition_69 hf (fun h H locs hp hf => ?_)
        refine z_iinc cx (fun x9 => [(1, .int (ii x9)), (0, .ref (B + u0))]) dX2_nextPartition_70 hl (k := 1) rfl (by decide) (fun _ => rfl) hf (fun x9 rx9 hf ls hl => ?_)
        refine lv_goto (tgt := 10) cx.1 cx.2.1 dX2_nextPartition_73 (by decide) ?_
        exact ih x9 h _ _ ls rx9 hp (lv_sub hl [1, 0] rfl) hf
      · exact hk24 v1 h _ _ ls rv1 hp (lv_sub hl [0, 1] rfl) hf
    · exact hk76  h _ _ ls  hp (lv_sub hl [] rfl) hf
def fX2_nextPartition (F : Nat) (a0 : Nat) (h : HF) : RO :=
  zgd h a0 4 fun x1 =>
  zgf h x1 0 fun x2 =>
  zlet (wr (x2 - 1)) fun x3 =>
  zjn (fun  (h : HF) => (
    zrz 0 h
  )) fun j76 =>
  zjn (fun (x24_1 : Int) (h : HF) => (
    zrd h (a0 + 2) x24_1 fun x4 =>
    zlet (wr (x4 + 1)) fun x5 =>
    zjn (fun (x54_1 : Int) (x54_2 : Int) (h : HF) => (
      zwr h (a0 + 2) x54_1 x54_2 fun h =>
      zrz 1 h
    )) fun j54 =>
    LX2_nextPartition_33 F a0 x24_1 j54 F x5 h
  )) fun j24 =>
  LX2_nextPartition_10 F a0 j76 j24 F x3 h
set_option maxHeartbeats 4000000 in
set_option maxRecDepth 100000 in
theorem mX2_nextPartition (F : Nat) (l : Launch) (g : zG) (B : Nat) (h : HF) (a0 : Nat) (ra0 : kt a0 = 5) : CTi l g B yX2_nextPartition cX2_nextPartition 3 (some .boolean) 0 [.ref (B + a0)] h (fX2_nextPartition F a0 h) := by
  refine z_enterI (by decide) rfl (Nat.le_of_ble_eq_true rfl) ?_
  intro p e s m args below meth c ls o Q cx hp hl hf hQ
  have hl : lv_has ls 3 [(0, .ref (B + a0))] := hl
  unfold fX2_nextPartition at hf
  refine lv_aload_n cx.1 cx.2.1 dX2_nextPartition_0 rfl (lv_at hl 0 rfl) ?_
  refine z_getd cx hp (T := TX2) 2 4 3 rfl zin_2 (by decide) (by decide) ra0 rfl fl_X2_21 dX2_nextPartition_1 hf (fun x1 rx1 hf => ?_)
  refine z_geti cx hp (T := TX0) 0 0 rfl zin_0 (by decide) (by decide) rx1 rfl fl_X2_39 dX2_nextPartition_4 hf (fun x2 rx2 hf => ?_)
  refine z_iconst cx dX2_nextPartition_7 ?_
  refine z_isub cx dX2_nextPartition_8 ?_
  refine z_let (rng_wr _) hf (fun x3 rx3 hf => ?_)
  refine lv_istore_n (lv' := [(1, .int (ii x3)), (0, .ref (B + a0))]) cx.1 cx.2.1 dX2_nextPartition_9 rfl hl (by decide) rfl (fun ls hl => ?_)
  refine z_jn hf (fun j => ∀  (h : HF) (H : Heap) (locs : List Loc) (ls : Array Slot), Hp g B s h H locs → lv_has ls 3 [] → j  h = some o → W p l e (rmn 0) s m args below meth c H locs 0 0 Q (F0 m 76 ls [])) ?_ (fun j76 hj76 hf => ?_)
  · intro  h H locs ls  hp hl hf
    refine z_iconst cx dX2_nextPartition_76 ?_
    rw [hQ]; exact z_zret cx hp dX2_nextPartition_77 hf
  refine z_jn hf (fun j => ∀ (x24_1 : Int) (h : HF) (H : Heap) (locs : List Loc) (ls : Array Slot), rng x24_1 → Hp g B s h H locs → lv_has ls 3 [(0, .ref (B + a0)), (1, .int (ii x24_1))] → j x24_1 h = some o → W p l e (rmn 0) s m args below meth c H locs 0 0 Q (F0 m 24 ls [])) ?_ (fun j24 hj24 hf => ?_)
  · intro x24_1 h H locs ls rx24_1 hp hl hf
    refine lv_aload_n cx.1 cx.2.1 dX2_nextPartition_24 rfl (lv_at hl 0 rfl) ?_
    refine z_gets cx hp (T := TX2) 2 2 (a0 + 2) rfl zin_2 (by decide) (by decide) ra0 rfl fl_X2_15 dX2_nextPartition_25 ?_
    refine lv_iload_n cx.1 cx.2.1 dX2_nextPartition_28 rfl (lv_at hl 1 rfl) ?_
    refine z_iald cx hp (zs_2_2 a0 (kt_lt ra0 (by decide)) ra0) rx24_1 dX2_nextPartition_29 hf (fun x4 rx4 hf => ?_)
    refine z_iconst cx dX2_nextPartition_30 ?_
    refine z_iadd cx dX2_nextPartition_31 ?_
    refine z_let (rng_wr _) hf (fun x5 rx5 hf => ?_)
    refine lv_istore_n (lv' := [(2, .int (ii x5)), (0, .ref (B + a0)), (1, .int (ii x24_1))]) cx.1 cx.2.1 dX2_nextPartition_32 rfl hl (by decide) rfl (fun ls hl => ?_)
    refine z_jn hf (fun j => ∀ (x54_1 : Int) (x54_2 : Int) (h : HF) (H : Heap) (locs : List Loc) (ls : Array Slot), rng x54_1 → rng x54_2 → Hp g B s h H locs → lv_has ls 3 [(0, .ref (B + a0)), (1, .int (ii x54_1)), (2, .int (ii x54_2))] → j x54_1 x54_2 h = some o → W p l e (rmn 0) s m args below meth c H locs 0 0 Q (F0 m 54 ls [])) ?_ (fun j54 hj54 hf => ?_)
    · intro x54_1 x54_2 h H locs ls rx54_1 rx54_2 hp hl hf
      refine lv_aload_n cx.1 cx.2.1 dX2_nextPartition_54 rfl (lv_at hl 0 rfl) ?_
      refine z_gets cx hp (T := TX2) 2 2 (a0 + 2) rfl zin_2 (by decide) (by decide) ra0 rfl fl_X2_15 dX2_nextPartition_55 ?_
      refine lv_iload_n cx.1 cx.2.1 dX2_nextPartition_58 rfl (lv_at hl 1 rfl) ?_
      refine lv_iload_n cx.1 cx.2.1 dX2_nextPartition_59 rfl (lv_at hl 2 rfl) ?_
      refine z_iast cx hp (zs_2_2 a0 (kt_lt ra0 (by decide)) ra0) rx54_1 rx54_2 dX2_nextPartition_60 hf (fun h H locs hp hf => ?_)
      refine z_iconst cx dX2_nextPartition_61 ?_
      rw [hQ]; exact z_zret cx hp dX2_nextPartition_62 hf
    exact wX2_nextPartition_33 F cx a0 ra0 x24_1 rx24_1 j54 hj54 F x5 h _ _ ls rx5 hp (lv_sub hl [1, 2, 0] rfl) hf
  exact wX2_nextPartition_10 F cx a0 ra0 j76 hj76 j24 hj24 F x3 h _ _ ls rx3 hp (lv_sub hl [1, 0] rfl) hf
theorem dX2_clashOf_0 : decode cX2_clashOf 0 = .ok (.aload_n 0, 1) := by decide +kernel
theorem dX2_clashOf_1 : decode cX2_clashOf 1 = .ok (.getfield 21, 3) := by decide +kernel
theorem dX2_clashOf_4 : decode cX2_clashOf 4 = .ok (.iload_n 1, 1) := by decide +kernel
theorem dX2_clashOf_5 : decode cX2_clashOf 5 = .ok (.invokevirtual 59, 3) := by decide +kernel
theorem dX2_clashOf_8 : decode cX2_clashOf 8 = .ok (.istore 4, 2) := by decide +kernel
theorem dX2_clashOf_10 : decode cX2_clashOf 10 = .ok (.iconst 0, 1) := by decide +kernel
theorem dX2_clashOf_11 : decode cX2_clashOf 11 = .ok (.istore 5, 2) := by decide +kernel
theorem dX2_clashOf_13 : decode cX2_clashOf 13 = .ok (.iload 5, 2) := by decide +kernel
theorem dX2_clashOf_15 : decode cX2_clashOf 15 = .ok (.iload 4, 2) := by decide +kernel
theorem dX2_clashOf_17 : decode cX2_clashOf 17 = .ok (.if_icmp .ge 126, 3) := by decide +kernel
theorem dX2_clashOf_20 : decode cX2_clashOf 20 = .ok (.aload_n 0, 1) := by decide +kernel
theorem dX2_clashOf_21 : decode cX2_clashOf 21 = .ok (.getfield 21, 3) := by decide +kernel
theorem dX2_clashOf_24 : decode cX2_clashOf 24 = .ok (.iload_n 1, 1) := by decide +kernel
theorem dX2_clashOf_25 : decode cX2_clashOf 25 = .ok (.iload_n 2, 1) := by decide +kernel
theorem dX2_clashOf_26 : decode cX2_clashOf 26 = .ok (.iload 5, 2) := by decide +kernel
theorem dX2_clashOf_28 : decode cX2_clashOf 28 = .ok (.invokevirtual 63, 3) := by decide +kernel
theorem dX2_clashOf_31 : decode cX2_clashOf 31 = .ok (.istore 6, 2) := by decide +kernel
theorem dX2_clashOf_33 : decode cX2_clashOf 33 = .ok (.aload_n 0, 1) := by decide +kernel
theorem dX2_clashOf_34 : decode cX2_clashOf 34 = .ok (.getfield 21, 3) := by decide +kernel
theorem dX2_clashOf_37 : decode cX2_clashOf 37 = .ok (.iload_n 1, 1) := by decide +kernel
theorem dX2_clashOf_38 : decode cX2_clashOf 38 = .ok (.iload_n 3, 1) := by decide +kernel
theorem dX2_clashOf_39 : decode cX2_clashOf 39 = .ok (.iload 5, 2) := by decide +kernel
theorem dX2_clashOf_41 : decode cX2_clashOf 41 = .ok (.invokevirtual 63, 3) := by decide +kernel
theorem dX2_clashOf_44 : decode cX2_clashOf 44 = .ok (.istore 7, 2) := by decide +kernel
theorem dX2_clashOf_46 : decode cX2_clashOf 46 = .ok (.aload_n 0, 1) := by decide +kernel
theorem dX2_clashOf_47 : decode cX2_clashOf 47 = .ok (.getfield 15, 3) := by decide +kernel
theorem dX2_clashOf_50 : decode cX2_clashOf 50 = .ok (.iload 6, 2) := by decide +kernel
theorem dX2_clashOf_52 : decode cX2_clashOf 52 = .ok (.iaload, 1) := by decide +kernel
theorem dX2_clashOf_53 : decode cX2_clashOf 53 = .ok (.aload_n 0, 1) := by decide +kernel
theorem dX2_clashOf_54 : decode cX2_clashOf 54 = .ok (.getfield 15, 3) := by decide +kernel
theorem dX2_clashOf_57 : decode cX2_clashOf 57 = .ok (.iload 7, 2) := by decide +kernel
theorem dX2_clashOf_59 : decode cX2_clashOf 59 = .ok (.iaload, 1) := by decide +kernel
theorem dX2_clashOf_60 : decode cX2_clashOf 60 = .ok (.if_icmp .eq 12, 3) := by decide +kernel
theorem dX2_clashOf_63 : decode cX2_clashOf 63 = .ok (.bipush 7, 2) := by decide +kernel
theorem dX2_clashOf_65 : decode cX2_clashOf 65 = .ok (.iload 6, 2) := by decide +kernel
theorem dX2_clashOf_67 : decode cX2_clashOf 67 = .ok (.imul, 1) := by decide +kernel
theorem dX2_clashOf_68 : decode cX2_clashOf 68 = .ok (.iload 7, 2) := by decide +kernel
theorem dX2_clashOf_70 : decode cX2_clashOf 70 = .ok (.iadd, 1) := by decide +kernel
theorem dX2_clashOf_71 : decode cX2_clashOf 71 = .ok (.ireturn, 1) := by decide +kernel
theorem dX2_clashOf_72 : decode cX2_clashOf 72 = .ok (.aload_n 0, 1) := by decide +kernel
theorem dX2_clashOf_73 : decode cX2_clashOf 73 = .ok (.getfield 21, 3) := by decide +kernel
theorem dX2_clashOf_76 : decode cX2_clashOf 76 = .ok (.getfield 66, 3) := by decide +kernel
theorem dX2_clashOf_79 : decode cX2_clashOf 79 = .ok (.iload_n 1, 1) := by decide +kernel
theorem dX2_clashOf_80 : decode cX2_clashOf 80 = .ok (.iaload, 1) := by decide +kernel
theorem dX2_clashOf_81 : decode cX2_clashOf 81 = .ok (.iconst 2, 1) := by decide +kernel
theorem dX2_clashOf_82 : decode cX2_clashOf 82 = .ok (.if_icmp .ne 55, 3) := by decide +kernel
theorem dX2_clashOf_85 : decode cX2_clashOf 85 = .ok (.aload_n 0, 1) := by decide +kernel
theorem dX2_clashOf_86 : decode cX2_clashOf 86 = .ok (.getfield 21, 3) := by decide +kernel
theorem dX2_clashOf_89 : decode cX2_clashOf 89 = .ok (.iload_n 1, 1) := by decide +kernel
theorem dX2_clashOf_90 : decode cX2_clashOf 90 = .ok (.iload 5, 2) := by decide +kernel
theorem dX2_clashOf_92 : decode cX2_clashOf 92 = .ok (.iload_n 2, 1) := by decide +kernel
theorem dX2_clashOf_93 : decode cX2_clashOf 93 = .ok (.invokevirtual 63, 3) := by decide +kernel
theorem dX2_clashOf_96 : decode cX2_clashOf 96 = .ok (.istore 6, 2) := by decide +kernel
theorem dX2_clashOf_98 : decode cX2_clashOf 98 = .ok (.aload_n 0, 1) := by decide +kernel
theorem dX2_clashOf_99 : decode cX2_clashOf 99 = .ok (.getfield 21, 3) := by decide +kernel
theorem dX2_clashOf_102 : decode cX2_clashOf 102 = .ok (.iload_n 1, 1) := by decide +kernel
theorem dX2_clashOf_103 : decode cX2_clashOf 103 = .ok (.iload 5, 2) := by decide +kernel
theorem dX2_clashOf_105 : decode cX2_clashOf 105 = .ok (.iload_n 3, 1) := by decide +kernel
theorem dX2_clashOf_106 : decode cX2_clashOf 106 = .ok (.invokevirtual 63, 3) := by decide +kernel
theorem dX2_clashOf_109 : decode cX2_clashOf 109 = .ok (.istore 7, 2) := by decide +kernel
theorem dX2_clashOf_111 : decode cX2_clashOf 111 = .ok (.aload_n 0, 1) := by decide +kernel
theorem dX2_clashOf_112 : decode cX2_clashOf 112 = .ok (.getfield 15, 3) := by decide +kernel
theorem dX2_clashOf_115 : decode cX2_clashOf 115 = .ok (.iload 6, 2) := by decide +kernel
theorem dX2_clashOf_117 : decode cX2_clashOf 117 = .ok (.iaload, 1) := by decide +kernel
theorem dX2_clashOf_118 : decode cX2_clashOf 118 = .ok (.aload_n 0, 1) := by decide +kernel
theorem dX2_clashOf_119 : decode cX2_clashOf 119 = .ok (.getfield 15, 3) := by decide +kernel
theorem dX2_clashOf_122 : decode cX2_clashOf 122 = .ok (.iload 7, 2) := by decide +kernel
theorem dX2_clashOf_124 : decode cX2_clashOf 124 = .ok (.iaload, 1) := by decide +kernel
theorem dX2_clashOf_125 : decode cX2_clashOf 125 = .ok (.if_icmp .eq 12, 3) := by decide +kernel
theorem dX2_clashOf_128 : decode cX2_clashOf 128 = .ok (.bipush 7, 2) := by decide +kernel
theorem dX2_clashOf_130 : decode cX2_clashOf 130 = .ok (.iload 6, 2) := by decide +kernel
theorem dX2_clashOf_132 : decode cX2_clashOf 132 = .ok (.imul, 1) := by decide +kernel
theorem dX2_clashOf_133 : decode cX2_clashOf 133 = .ok (.iload 7, 2) := by decide +kernel
theorem dX2_clashOf_135 : decode cX2_clashOf 135 = .ok (.iadd, 1) := by decide +kernel
theorem dX2_clashOf_136 : decode cX2_clashOf 136 = .ok (.ireturn, 1) := by decide +kernel
theorem dX2_clashOf_137 : decode cX2_clashOf 137 = .ok (.iinc 5 1, 3) := by decide +kernel
theorem dX2_clashOf_140 : decode cX2_clashOf 140 = .ok (.goto (-127), 3) := by decide +kernel
theorem dX2_clashOf_143 : decode cX2_clashOf 143 = .ok (.iconst (-1), 1) := by decide +kernel
theorem dX2_clashOf_144 : decode cX2_clashOf 144 = .ok (.ireturn, 1) := by decide +kernel
def LX2_clashOf_13 (F : Nat) (u0 : Nat) (u1 : Int) (u2 : Int) (u3 : Int) (u4 : Int) (k143 : HF → RO) (k128 : Int → Int → HF → RO) (k63 : Int → Int → HF → RO) : Nat → Int → HF → RO
  | 0, _, _ => none
  | n + 1, v5, h =>
    if v5 < u4 then (
      zgd h u0 4 fun x3 =>
      zbd (fX0_value F x3 u1 u2 v5 h) fun r4 h =>
      zgd h u0 4 fun x5 =>
      zbd (fX0_value F x5 u1 u3 v5 h) fun r6 h =>
      zrd h (u0 + 2) r4 fun x7 =>
      zrd h (u0 + 2) r6 fun x8 =>
      if x7 = x8 then (
        zgd h u0 4 fun x9 =>
        zrd h (x9 + 1) u1 fun x10 =>
        zjn (fun (x137_5 : Int) (h : HF) => (
          zlet (wr (x137_5 + 1)) fun x11 =>
          LX2_clashOf_13 F u0 u1 u2 u3 u4 k143 k128 k63 n x11 h
        )) fun j137 =>
        if x10 = 2 then (
          zgd h u0 4 fun x12 =>
          zbd (fX0_value F x12 u1 v5 u2 h) fun r13 h =>
          zgd h u0 4 fun x14 =>
          zbd (fX0_value F x14 u1 v5 u3 h) fun r15 h =>
          zrd h (u0 + 2) r13 fun x16 =>
          zrd h (u0 + 2) r15 fun x17 =>
          if x16 = x17 then (
            j137 v5 h
          ) else (
            k128 r13 r15 h
          )
        ) else (
          j137 v5 h
        )
      ) else (
        k63 r4 r6 h
      )
    ) else (
      k143  h
    )
set_option maxHeartbeats 4000000 in
set_option maxRecDepth 100000 in
theorem wX2_clashOf_13 {p : Program} {l : Launch} {e : Env} {s : State} {m : MethodId} {args : Array Value} {below : List Frame} {meth : Method} {c : Code} {Q : State → Prop} {g : zG} {B : Nat} {o : Int × HF} (F : Nat) (cx : Cx p s m args meth c cX2_clashOf 8 RX2 (some .int) g B) (u0 : Nat) (ru0 : kt u0 = 5) (u1 : Int) (ru1 : rng u1) (u2 : Int) (ru2 : rng u2) (u3 : Int) (ru3 : rng u3) (u4 : Int) (ru4 : rng u4) (k143 : HF → RO) (hk143 : ∀  (h : HF) (H : Heap) (locs : List Loc) (ls : Array Slot), Hp g B s h H locs → lv_has ls 8 [] → k143  h = some o → W p l e (rmn 2) s m args below meth c H locs 0 0 Q (F0 m 143 ls [])) (k128 : Int → Int → HF → RO) (hk128 : ∀ (x6 : Int) (x7 : Int) (h : HF) (H : Heap) (locs : List Loc) (ls : Array Slot), rng x6 → rng x7 → Hp g B s h H locs → lv_has ls 8 [(6, .int (ii x6)), (7, .int (ii x7))] → k128 x6 x7 h = some o → W p l e (rmn 2) s m args below meth c H locs 0 0 Q (F0 m 128 ls [])) (k63 : Int → Int → HF → RO) (hk63 : ∀ (x6 : Int) (x7 : Int) (h : HF) (H : Heap) (locs : List Loc) (ls : Array Slot), rng x6 → rng x7 → Hp g B s h H locs → lv_has ls 8 [(6, .int (ii x6)), (7, .int (ii x7))] → k63 x6 x7 h = some o → W p l e (rmn 2) s m args below meth c H locs 0 0 Q (F0 m 63 ls [])) : ∀ (n : Nat) (v5 : Int) (h : HF) (H : Heap) (locs : List Loc) (ls : Array Slot), rng v5 → Hp g B s h H locs → lv_has ls 8 [(0, .ref (B + u0)), (1, .int (ii u1)), (2, .int (ii u2)), (3, .int (ii u3)), (4, .int (ii u4)), (5, .int (ii v5))] → LX2_clashOf_13 F u0 u1 u2 u3 u4 k143 k128 k63 n v5 h = some o → W p l e (rmn 2) s m args below meth c H locs 0 0 Q (F0 m 13 ls []) := by
  intro n
  induction n with
  | zero =>
    intro v5 h H locs ls rv5 hp hl hf
    cases hf
  | succ n ih =>
    intro v5 h H locs ls rv5 hp hl hf
    rw [LX2_clashOf_13] at hf
    refine lv_iload cx.1 cx.2.1 dX2_clashOf_13 (lv_at hl 5 rfl) ?_
    refine lv_iload cx.1 cx.2.1 dX2_clashOf_15 (lv_at hl 4 rfl) ?_
    refine z_icmp_ge cx rv5 ru4 (tgt := 143) dX2_clashOf_17 (by decide) hf (fun _ hf => ?_) (fun _ hf => ?_)
    · refine lv_aload_n cx.1 cx.2.1 dX2_clashOf_20 rfl (lv_at hl 0 rfl) ?_
      refine z_getd cx hp (T := TX2) 2 4 3 rfl zin_2 (by decide) (by decide) ru0 rfl fl_X2_21 dX2_clashOf_21 hf (fun x3 rx3 hf => ?_)
      refine lv_iload_n cx.1 cx.2.1 dX2_clashOf_24 rfl (lv_at hl 1 rfl) ?_
      refine lv_iload_n cx.1 cx.2.1 dX2_clashOf_25 rfl (lv_at hl 2 rfl) ?_
      refine lv_iload cx.1 cx.2.1 dX2_clashOf_26 (lv_at hl 5 rfl) ?_
      refine z_ci cx hp (fun o' hx => zrunV (n := 2) (As := [.int (ii u1), .int (ii u2), .int (ii v5)]) (rest := []) cx hp (mX0_value F l g B h x3 u1 u2 v5 rx3 ru1 ru2 rv5 o' hx) 0 rx3 (by decide) rfl vw_X0_value ml_X2_63 (by decide) rfl hl.1 rfl (Nat.le_of_ble_eq_true rfl) dX2_clashOf_28) hf (fun r4 h H locs rr4 hp hf => ?_)
      refine lv_istore (lv' := [(6, .int (ii r4)), (0, .ref (B + u0)), (1, .int (ii u1)), (2, .int (ii u2)), (3, .int (ii u3)), (4, .int (ii u4)), (5, .int (ii v5))]) cx.1 cx.2.1 dX2_clashOf_31 hl (by decide) rfl (fun ls hl => ?_)
      refine lv_aload_n cx.1 cx.2.1 dX2_clashOf_33 rfl (lv_at hl 1 rfl) ?_
      refine z_getd cx hp (T := TX2) 2 4 3 rfl zin_2 (by decide) (by decide) ru0 rfl fl_X2_21 dX2_clashOf_34 hf (fun x5 rx5 hf => ?_)
      refine lv_iload_n cx.1 cx.2.1 dX2_clashOf_37 rfl (lv_at hl 2 rfl) ?_
      refine lv_iload_n cx.1 cx.2.1 dX2_clashOf_38 rfl (lv_at hl 4 rfl) ?_
      refine lv_iload cx.1 cx.2.1 dX2_clashOf_39 (lv_at hl 6 rfl) ?_
      refine z_ci cx hp (fun o' hx => zrunV (n := 2) (As := [.int (ii u1), .int (ii u3), .int (ii v5)]) (rest := []) cx hp (mX0_value F l g B h x5 u1 u3 v5 rx5 ru1 ru3 rv5 o' hx) 0 rx5 (by decide) rfl vw_X0_value ml_X2_63 (by decide) rfl hl.1 rfl (Nat.le_of_ble_eq_true rfl) dX2_clashOf_41) hf (fun r6 h H locs rr6 hp hf => ?_)
      refine lv_istore (lv' := [(7, .int (ii r6)), (6, .int (ii r4)), (0, .ref (B + u0)), (1, .int (ii u1)), (2, .int (ii u2)), (3, .int (ii u3)), (4, .int (ii u4)), (5, .int (ii v5))]) cx.1 cx.2.1 dX2_clashOf_44 hl (by decide) rfl (fun ls hl => ?_)
      refine lv_aload_n cx.1 cx.2.1 dX2_clashOf_46 rfl (lv_at hl 2 rfl) ?_
      refine z_gets cx hp (T := TX2) 2 2 (u0 + 2) rfl zin_2 (by decide) (by decide) ru0 rfl fl_X2_15 dX2_clashOf_47 ?_
      refine lv_iload cx.1 cx.2.1 dX2_clashOf_50 (lv_at hl 1 rfl) ?_
      refine z_iald cx hp (zs_2_2 u0 (kt_lt ru0 (by decide)) ru0) rr4 dX2_clashOf_52 hf (fun x7 rx7 hf => ?_)
      refine lv_aload_n cx.1 cx.2.1 dX2_clashOf_53 rfl (lv_at hl 2 rfl) ?_
      refine z_gets cx hp (T := TX2) 2 2 (u0 + 2) rfl zin_2 (by decide) (by decide) ru0 rfl fl_X2_15 dX2_clashOf_54 ?_
      refine lv_iload cx.1 cx.2.1 dX2_clashOf_57 (lv_at hl 0 rfl) ?_
      refine z_iald cx hp (zs_2_2 u0 (kt_lt ru0 (by decide)) ru0) rr6 dX2_clashOf_59 hf (fun x8 rx8 hf => ?_)
      refine z_icmp_eq cx rx7 rx8 (tgt := 72) dX2_clashOf_60 (by decide) hf (fun _ hf => ?_) (fun _ hf => ?_)
      · refine lv_aload_n cx.1 cx.2.1 dX2_clashOf_72 rfl (lv_at hl 2 rfl) ?_
        refine z_getd cx hp (T := TX2) 2 4 3 rfl zin_2 (by decide) (by decide) ru0 rfl fl_X2_21 dX2_clashOf_73 hf (fun x9 rx9 hf => ?_)
        refine z_gets cx hp (T := TX0) 0 3 (x9 + 1) rfl zin_0 (by decide) (by decide) rx9 rfl fl_X2_66 dX2_clashOf_76 ?_
        refine lv_iload_n cx.1 cx.2.1 dX2_clashOf_79 rfl (lv_at hl 3 rfl) ?_
        refine z_iald cx hp (zs_0_3 x9 (kt_lt rx9 (by decide)) rx9) ru1 dX2_clashOf_80 hf (fun x10 rx10 hf => ?_)
        refine z_iconst cx dX2_clashOf_81 ?_
        refine z_jn hf (fun j => ∀ (x137_5 : Int) (h : HF) (H : Heap) (locs : List Loc) (ls : Array Slot), rng x137_5 → Hp g B s h H locs → lv_has ls 8 [(0, .ref (B + u0)), (1, .int (ii u1)), (2, .int (ii u2)), (3, .int (ii u3)), (4, .int (ii u4)), (5, .int (ii x137_5))] → j x137_5 h = some o → W p l e (rmn 2) s m args below meth c H locs 0 0 Q (F0 m 137 ls [])) ?_ (fun j137 hj137 hf => ?_)
        · intro x137_5 h H locs ls rx137_5 hp hl hf
          refine z_iinc cx (fun x11 => [(5, .int (ii x11)), (0, .ref (B + u0)), (1, .int (ii u1)), (2, .int (ii u2)), (3, .int (ii u3)), (4, .int (ii u4))]) dX2_clashOf_137 hl (k := 5) rfl (by decide) (fun _ => rfl) hf (fun x11 rx11 hf ls hl => ?_)
          refine lv_goto (tgt := 13) cx.1 cx.2.1 dX2_clashOf_140 (by decide) ?_
          exact ih x11 h _ _ ls rx11 hp (lv_sub hl [1, 2, 3, 4, 5, 0] rfl) hf
        refine z_icmp_ne cx rx10 (by decide) (tgt := 137) dX2_clashOf_82 (by decide) hf (fun _ hf => ?_) (fun _ hf => ?_)
        · refine lv_aload_n cx.1 cx.2.1 dX2_clashOf_85 rfl (lv_at hl 2 rfl) ?_
          refine z_getd cx hp (T := TX2) 2 4 3 rfl zin_2 (by decide) (by decide) ru0 rfl fl_X2_21 dX2_clashOf_86 hf (fun x12 rx12 hf => ?_)
          refine lv_iload_n cx.1 cx.2.1 dX2_clashOf_89 rfl (lv_at hl 3 rfl) ?_
          refine lv_iload cx.1 cx.2.1 dX2_clashOf_90 (lv_at hl 7 rfl) ?_
          refine lv_iload_n cx.1 cx.2.1 dX2_clashOf_92 rfl (lv_at hl 4 rfl) ?_
          refine z_ci cx hp (fun o' hx => zrunV (n := 2) (As := [.int (ii u1), .int (ii v5), .int (ii u2)]) (rest := []) cx hp (mX0_value F l g B h x12 u1 v5 u2 rx12 ru1 rv5 ru2 o' hx) 0 rx12 (by decide) rfl vw_X0_value ml_X2_63 (by decide) rfl hl.1 rfl (Nat.le_of_ble_eq_true rfl) dX2_clashOf_93) hf (fun r13 h H locs rr13 hp hf => ?_)
          refine lv_istore (lv' := [(6, .int (ii r13)), (7, .int (ii r6)), (0, .ref (B + u0)), (1, .int (ii u1)), (2, .int (ii u2)), (3, .int (ii u3)), (4, .int (ii u4)), (5, .int (ii v5))]) cx.1 cx.2.1 dX2_clashOf_96 hl (by decide) rfl (fun ls hl => ?_)
          refine lv_aload_n cx.1 cx.2.1 dX2_clashOf_98 rfl (lv_at hl 2 rfl) ?_
          refine z_getd cx hp (T := TX2) 2 4 3 rfl zin_2 (by decide) (by decide) ru0 rfl fl_X2_21 dX2_clashOf_99 hf (fun x14 rx14 hf => ?_)
          refine lv_iload_n cx.1 cx.2.1 dX2_clashOf_102 rfl (lv_at hl 3 rfl) ?_
          refine lv_iload cx.1 cx.2.1 dX2_clashOf_103 (lv_at hl 7 rfl) ?_
          refine lv_iload_n cx.1 cx.2.1 dX2_clashOf_105 rfl (lv_at hl 5 rfl) ?_
          refine z_ci cx hp (fun o' hx => zrunV (n := 2) (As := [.int (ii u1), .int (ii v5), .int (ii u3)]) (rest := []) cx hp (mX0_value F l g B h x14 u1 v5 u3 rx14 ru1 rv5 ru3 o' hx) 0 rx14 (by decide) rfl vw_X0_value ml_X2_63 (by decide) rfl hl.1 rfl (Nat.le_of_ble_eq_true rfl) dX2_clashOf_106) hf (fun r15 h H locs rr15 hp hf => ?_)
          refine lv_istore (lv' := [(7, .int (ii r15)), (6, .int (ii r13)), (0, .ref (B + u0)), (1, .int (ii u1)), (2, .int (ii u2)), (3, .int (ii u3)), (4, .int (ii u4)), (5, .int (ii v5))]) cx.1 cx.2.1 dX2_clashOf_109 hl (by decide) rfl (fun ls hl => ?_)
          refine lv_aload_n cx.1 cx.2.1 dX2_clashOf_111 rfl (lv_at hl 2 rfl) ?_
          refine z_gets cx hp (T := TX2) 2 2 (u0 + 2) rfl zin_2 (by decide) (by decide) ru0 rfl fl_X2_15 dX2_clashOf_112 ?_
          refine lv_iload cx.1 cx.2.1 dX2_clashOf_115 (lv_at hl 1 rfl) ?_
          refine z_iald cx hp (zs_2_2 u0 (kt_lt ru0 (by decide)) ru0) rr13 dX2_clashOf_117 hf (fun x16 rx16 hf => ?_)
          refine lv_aload_n cx.1 cx.2.1 dX2_clashOf_118 rfl (lv_at hl 2 rfl) ?_
          refine z_gets cx hp (T := TX2) 2 2 (u0 + 2) rfl zin_2 (by decide) (by decide) ru0 rfl fl_X2_15 dX2_clashOf_119 ?_
          refine lv_iload cx.1 cx.2.1 dX2_clashOf_122 (lv_at hl 0 rfl) ?_
          refine z_iald cx hp (zs_2_2 u0 (kt_lt ru0 (by decide)) ru0) rr15 dX2_clashOf_124 hf (fun x17 rx17 hf => ?_)
          refine z_icmp_eq cx rx16 rx17 (tgt := 137) dX2_clashOf_125 (by decide) hf (fun _ hf => ?_) (fun _ hf => ?_)
          · exact hj137 v5 h _ _ ls rv5 hp (lv_sub hl [2, 3, 4, 5, 6, 7] rfl) hf
          · exact hk128 r13 r15 h _ _ ls rr13 rr15 hp (lv_sub hl [1, 0] rfl) hf
        · exact hj137 v5 h _ _ ls rv5 hp (lv_sub hl [2, 3, 4, 5, 6, 7] rfl) hf
      · exact hk63 r4 r6 h _ _ ls rr4 rr6 hp (lv_sub hl [1, 0] rfl) hf
    · exact hk143  h _ _ ls  hp (lv_sub hl [] rfl) hf
def fX2_clashOf (F : Nat) (a0 : Nat) (a1 : Int) (a2 : Int) (a3 : Int) (h : HF) : RO :=
  zgd h a0 4 fun x1 =>
  zbd (fX0_columns F x1 a1 h) fun r2 h =>
  zjn (fun  (h : HF) => (
    some ((-1), h)
  )) fun j143 =>
  zjn (fun (x128_6 : Int) (x128_7 : Int) (h : HF) => (
    some (wr ((wr (7 * x128_6)) + x128_7), h)
  )) fun j128 =>
  zjn (fun (x63_6 : Int) (x63_7 : Int) (h : HF) => (
    some (wr ((wr (7 * x63_6)) + x63_7), h)
  )) fun j63 =>
  LX2_clashOf_13 F a0 a1 a2 a3 r2 j143 j128 j63 F 0 h
set_option maxHeartbeats 4000000 in
set_option maxRecDepth 100000 in
theorem mX2_clashOf (F : Nat) (l : Launch) (g : zG) (B : Nat) (h : HF) (a0 : Nat) (a1 : Int) (a2 : Int) (a3 : Int) (ra0 : kt a0 = 5) (ra1 : rng a1) (ra2 : rng a2) (ra3 : rng a3) : CTi l g B yX2_clashOf cX2_clashOf 8 (some .int) 2 [.ref (B + a0), .int (ii a1), .int (ii a2), .int (ii a3)] h (fX2_clashOf F a0 a1 a2 a3 h) := by
  refine z_enterI (by decide) rfl (Nat.le_of_ble_eq_true rfl) ?_
  intro p e s m args below meth c ls o Q cx hp hl hf hQ
  have hl : lv_has ls 8 [(0, .ref (B + a0)), (1, .int (ii a1)), (2, .int (ii a2)), (3, .int (ii a3))] := hl
  unfold fX2_clashOf at hf
  refine lv_aload_n cx.1 cx.2.1 dX2_clashOf_0 rfl (lv_at hl 0 rfl) ?_
  refine z_getd cx hp (T := TX2) 2 4 3 rfl zin_2 (by decide) (by decide) ra0 rfl fl_X2_21 dX2_clashOf_1 hf (fun x1 rx1 hf => ?_)
  refine lv_iload_n cx.1 cx.2.1 dX2_clashOf_4 rfl (lv_at hl 1 rfl) ?_
  refine z_ci cx hp (fun o' hx => zrunV (n := 2) (As := [.int (ii a1)]) (rest := []) cx hp (mX0_columns F l g B h x1 a1 rx1 ra1 o' hx) 0 rx1 (by decide) rfl vw_X0_columns ml_X2_59 (by decide) rfl hl.1 rfl (Nat.le_of_ble_eq_true rfl) dX2_clashOf_5) hf (fun r2 h H locs rr2 hp hf => ?_)
  refine lv_istore (lv' := [(4, .int (ii r2)), (0, .ref (B + a0)), (1, .int (ii a1)), (2, .int (ii a2)), (3, .int (ii a3))]) cx.1 cx.2.1 dX2_clashOf_8 hl (by decide) rfl (fun ls hl => ?_)
  refine z_iconst cx dX2_clashOf_10 ?_
  refine lv_istore (lv' := [(5, .int (ii 0)), (4, .int (ii r2)), (0, .ref (B + a0)), (1, .int (ii a1)), (2, .int (ii a2)), (3, .int (ii a3))]) cx.1 cx.2.1 dX2_clashOf_11 hl (by decide) rfl (fun ls hl => ?_)
  refine z_jn hf (fun j => ∀  (h : HF) (H : Heap) (locs : List Loc) (ls : Array Slot), Hp g B s h H locs → lv_has ls 8 [] → j  h = some o → W p l e (rmn 2) s m args below meth c H locs 0 0 Q (F0 m 143 ls [])) ?_ (fun j143 hj143 hf => ?_)
  · intro  h H locs ls  hp hl hf
    refine z_iconst cx dX2_clashOf_143 ?_
    rw [hQ]; exact z_iret cx hp (by decide) dX2_clashOf_144 hf
  refine z_jn hf (fun j => ∀ (x128_6 : Int) (x128_7 : Int) (h : HF) (H : Heap) (locs : List Loc) (ls : Array Slot), rng x128_6 → rng x128_7 → Hp g B s h H locs → lv_has ls 8 [(6, .int (ii x128_6)), (7, .int (ii x128_7))] → j x128_6 x128_7 h = some o → W p l e (rmn 2) s m args below meth c H locs 0 0 Q (F0 m 128 ls [])) ?_ (fun j128 hj128 hf => ?_)
  · intro x128_6 x128_7 h H locs ls rx128_6 rx128_7 hp hl hf
    refine z_bipush cx (by decide) dX2_clashOf_128 ?_
    refine lv_iload cx.1 cx.2.1 dX2_clashOf_130 (lv_at hl 0 rfl) ?_
    refine z_imul cx dX2_clashOf_132 ?_
    refine lv_iload cx.1 cx.2.1 dX2_clashOf_133 (lv_at hl 1 rfl) ?_
    refine z_iadd cx dX2_clashOf_135 ?_
    rw [hQ]; exact z_iret cx hp (rng_wr _) dX2_clashOf_136 hf
  refine z_jn hf (fun j => ∀ (x63_6 : Int) (x63_7 : Int) (h : HF) (H : Heap) (locs : List Loc) (ls : Array Slot), rng x63_6 → rng x63_7 → Hp g B s h H locs → lv_has ls 8 [(6, .int (ii x63_6)), (7, .int (ii x63_7))] → j x63_6 x63_7 h = some o → W p l e (rmn 2) s m args below meth c H locs 0 0 Q (F0 m 63 ls [])) ?_ (fun j63 hj63 hf => ?_)
  · intro x63_6 x63_7 h H locs ls rx63_6 rx63_7 hp hl hf
    refine z_bipush cx (by decide) dX2_clashOf_63 ?_
    refine lv_iload cx.1 cx.2.1 dX2_clashOf_65 (lv_at hl 0 rfl) ?_
    refine z_imul cx dX2_clashOf_67 ?_
    refine lv_iload cx.1 cx.2.1 dX2_clashOf_68 (lv_at hl 1 rfl) ?_
    refine z_iadd cx dX2_clashOf_70 ?_
    rw [hQ]; exact z_iret cx hp (rng_wr _) dX2_clashOf_71 hf
  exact wX2_clashOf_13 F cx a0 ra0 a1 ra1 a2 ra2 a3 ra3 r2 rr2 j143 hj143 j128 hj128 j63 hj63 F 0 h _ _ ls (by decide) hp (lv_sub hl [2, 3, 4, 5, 1, 0] rfl) hf
theorem dX2_has_0 : decode cX2_has 0 = .ok (.iload_n 1, 1) := by decide +kernel
theorem dX2_has_1 : decode cX2_has 1 = .ok (.ifCond .lt 15, 3) := by decide +kernel
theorem dX2_has_4 : decode cX2_has 4 = .ok (.iload_n 1, 1) := by decide +kernel
theorem dX2_has_5 : decode cX2_has 5 = .ok (.aload_n 0, 1) := by decide +kernel
theorem dX2_has_6 : decode cX2_has 6 = .ok (.getfield 25, 3) := by decide +kernel
theorem dX2_has_9 : decode cX2_has 9 = .ok (.if_icmp .ge 7, 3) := by decide +kernel
theorem dX2_has_12 : decode cX2_has 12 = .ok (.iconst 1, 1) := by decide +kernel
theorem dX2_has_13 : decode cX2_has 13 = .ok (.goto 4, 3) := by decide +kernel
theorem dX2_has_16 : decode cX2_has 16 = .ok (.iconst 0, 1) := by decide +kernel
theorem dX2_has_17 : decode cX2_has 17 = .ok (.ireturn, 1) := by decide +kernel
def fX2_has (F : Nat) (a0 : Nat) (a1 : Int) (h : HF) : RO :=
  zjn (fun (y17_0 : Int) (h : HF) => (
    zrz y17_0 h
  )) fun j17 =>
  zjn (fun  (h : HF) => (
    j17 0 h
  )) fun j16 =>
  if a1 < 0 then (
    j16  h
  ) else (
    zgf h a0 1 fun x1 =>
    if a1 < x1 then (
      j17 1 h
    ) else (
      j16  h
    )
  )
set_option maxHeartbeats 4000000 in
set_option maxRecDepth 100000 in
theorem mX2_has (F : Nat) (l : Launch) (g : zG) (B : Nat) (h : HF) (a0 : Nat) (a1 : Int) (ra0 : kt a0 = 5) (ra1 : rng a1) : CTi l g B yX2_has cX2_has 2 (some .boolean) 0 [.ref (B + a0), .int (ii a1)] h (fX2_has F a0 a1 h) := by
  refine z_enterI (by decide) rfl (Nat.le_of_ble_eq_true rfl) ?_
  intro p e s m args below meth c ls o Q cx hp hl hf hQ
  have hl : lv_has ls 2 [(0, .ref (B + a0)), (1, .int (ii a1))] := hl
  unfold fX2_has at hf
  refine lv_iload_n cx.1 cx.2.1 dX2_has_0 rfl (lv_at hl 1 rfl) ?_
  refine z_jn hf (fun j => ∀ (y17_0 : Int) (h : HF) (H : Heap) (locs : List Loc) (ls : Array Slot), rng y17_0 → Hp g B s h H locs → lv_has ls 2 [] → j y17_0 h = some o → W p l e (rmn 0) s m args below meth c H locs 0 0 Q (F0 m 17 ls [.int (ii y17_0)])) ?_ (fun j17 hj17 hf => ?_)
  · intro y17_0 h H locs ls ry17_0 hp hl hf
    rw [hQ]; exact z_zret cx hp dX2_has_17 hf
  refine z_jn hf (fun j => ∀  (h : HF) (H : Heap) (locs : List Loc) (ls : Array Slot), Hp g B s h H locs → lv_has ls 2 [] → j  h = some o → W p l e (rmn 0) s m args below meth c H locs 0 0 Q (F0 m 16 ls [])) ?_ (fun j16 hj16 hf => ?_)
  · intro  h H locs ls  hp hl hf
    refine z_iconst cx dX2_has_16 ?_
    exact hj17 0 h _ _ ls (by decide) hp (lv_sub hl [] rfl) hf
  refine z_if_lt cx ra1 (tgt := 16) dX2_has_1 (by decide) hf (fun _ hf => ?_) (fun _ hf => ?_)
  · exact hj16  h _ _ ls  hp (lv_sub hl [] rfl) hf
  · refine lv_iload_n cx.1 cx.2.1 dX2_has_4 rfl (lv_at hl 1 rfl) ?_
    refine lv_aload_n cx.1 cx.2.1 dX2_has_5 rfl (lv_at hl 0 rfl) ?_
    refine z_geti cx hp (T := TX2) 2 1 rfl zin_2 (by decide) (by decide) ra0 rfl fl_X2_25 dX2_has_6 hf (fun x1 rx1 hf => ?_)
    refine z_icmp_ge cx ra1 rx1 (tgt := 16) dX2_has_9 (by decide) hf (fun _ hf => ?_) (fun _ hf => ?_)
    · refine z_iconst cx dX2_has_12 ?_
      refine lv_goto (tgt := 17) cx.1 cx.2.1 dX2_has_13 (by decide) ?_
      exact hj17 1 h _ _ ls (by decide) hp (lv_sub hl [] rfl) hf
    · exact hj16  h _ _ ls  hp (lv_sub hl [] rfl) hf
theorem dX2_decode_0 : decode cX2_decode 0 = .ok (.iload_n 1, 1) := by decide +kernel
theorem dX2_decode_1 : decode cX2_decode 1 = .ok (.istore_n 3, 1) := by decide +kernel
theorem dX2_decode_2 : decode cX2_decode 2 = .ok (.aload_n 0, 1) := by decide +kernel
theorem dX2_decode_3 : decode cX2_decode 3 = .ok (.getfield 21, 3) := by decide +kernel
theorem dX2_decode_6 : decode cX2_decode 6 = .ok (.getfield 39, 3) := by decide +kernel
theorem dX2_decode_9 : decode cX2_decode 9 = .ok (.iconst 1, 1) := by decide +kernel
theorem dX2_decode_10 : decode cX2_decode 10 = .ok (.isub, 1) := by decide +kernel
theorem dX2_decode_11 : decode cX2_decode 11 = .ok (.istore 4, 2) := by decide +kernel
theorem dX2_decode_13 : decode cX2_decode 13 = .ok (.iload 4, 2) := by decide +kernel
theorem dX2_decode_15 : decode cX2_decode 15 = .ok (.ifCond .lt 22, 3) := by decide +kernel
theorem dX2_decode_18 : decode cX2_decode 18 = .ok (.aload_n 2, 1) := by decide +kernel
theorem dX2_decode_19 : decode cX2_decode 19 = .ok (.iload 4, 2) := by decide +kernel
theorem dX2_decode_21 : decode cX2_decode 21 = .ok (.iload_n 3, 1) := by decide +kernel
theorem dX2_decode_22 : decode cX2_decode 22 = .ok (.bipush 7, 2) := by decide +kernel
theorem dX2_decode_24 : decode cX2_decode 24 = .ok (.irem, 1) := by decide +kernel
theorem dX2_decode_25 : decode cX2_decode 25 = .ok (.iastore, 1) := by decide +kernel
theorem dX2_decode_26 : decode cX2_decode 26 = .ok (.iload_n 3, 1) := by decide +kernel
theorem dX2_decode_27 : decode cX2_decode 27 = .ok (.bipush 7, 2) := by decide +kernel
theorem dX2_decode_29 : decode cX2_decode 29 = .ok (.idiv, 1) := by decide +kernel
theorem dX2_decode_30 : decode cX2_decode 30 = .ok (.istore_n 3, 1) := by decide +kernel
theorem dX2_decode_31 : decode cX2_decode 31 = .ok (.iinc 4 (-1), 3) := by decide +kernel
theorem dX2_decode_34 : decode cX2_decode 34 = .ok (.goto (-21), 3) := by decide +kernel
theorem dX2_decode_37 : decode cX2_decode 37 = .ok (.return_, 1) := by decide +kernel
def LX2_decode_13 (F : Nat) (u2 : Nat) (k37 : HF → RO) : Nat → Int → Int → HF → RO
  | 0, _, _, _ => none
  | n + 1, v3, v4, h =>
    if v4 < 0 then (
      k37  h
    ) else (
      zdv 7 <|
      zwr h u2 v4 (wrem v3 7) fun h =>
      zdv 7 <|
      zlet (wdiv v3 7) fun x4 =>
      zlet (wr (v4 + (-1))) fun x5 =>
      LX2_decode_13 F u2 k37 n x4 x5 h
    )
set_option maxHeartbeats 4000000 in
set_option maxRecDepth 100000 in
theorem wX2_decode_13 {p : Program} {l : Launch} {e : Env} {s : State} {m : MethodId} {args : Array Value} {below : List Frame} {meth : Method} {c : Code} {Q : State → Prop} {g : zG} {B : Nat} {o : Int × HF} (F : Nat) (cx : Cx p s m args meth c cX2_decode 5 RX2 none g B) (u2 : Nat) (ru2 : kt u2 = 0) (k37 : HF → RO) (hk37 : ∀  (h : HF) (H : Heap) (locs : List Loc) (ls : Array Slot), Hp g B s h H locs → lv_has ls 5 [] → k37  h = some o → W p l e (rmn 0) s m args below meth c H locs 0 0 Q (F0 m 37 ls [])) : ∀ (n : Nat) (v3 : Int) (v4 : Int) (h : HF) (H : Heap) (locs : List Loc) (ls : Array Slot), rng v3 → rng v4 → Hp g B s h H locs → lv_has ls 5 [(2, .ref (B + u2)), (3, .int (ii v3)), (4, .int (ii v4))] → LX2_decode_13 F u2 k37 n v3 v4 h = some o → W p l e (rmn 0) s m args below meth c H locs 0 0 Q (F0 m 13 ls []) := by
  intro n
  induction n with
  | zero =>
    intro v3 v4 h H locs ls rv3 rv4 hp hl hf
    cases hf
  | succ n ih =>
    intro v3 v4 h H locs ls rv3 rv4 hp hl hf
    rw [LX2_decode_13] at hf
    refine lv_iload cx.1 cx.2.1 dX2_decode_13 (lv_at hl 2 rfl) ?_
    refine z_if_lt cx rv4 (tgt := 37) dX2_decode_15 (by decide) hf (fun _ hf => ?_) (fun _ hf => ?_)
    · exact hk37  h _ _ ls  hp (lv_sub hl [] rfl) hf
    · refine lv_aload_n cx.1 cx.2.1 dX2_decode_18 rfl (lv_at hl 0 rfl) ?_
      refine lv_iload cx.1 cx.2.1 dX2_decode_19 (lv_at hl 2 rfl) ?_
      refine lv_iload_n cx.1 cx.2.1 dX2_decode_21 rfl (lv_at hl 1 rfl) ?_
      refine z_bipush cx (by decide) dX2_decode_22 ?_
      refine z_irem cx rv3 (by decide) dX2_decode_24 hf (fun hf => ?_)
      refine z_iast cx hp ru2 rv4 (rng_rem _ _) dX2_decode_25 hf (fun h H locs hp hf => ?_)
      refine lv_iload_n cx.1 cx.2.1 dX2_decode_26 rfl (lv_at hl 1 rfl) ?_
      refine z_bipush cx (by decide) dX2_decode_27 ?_
      refine z_idiv cx rv3 (by decide) dX2_decode_29 hf (fun hf => ?_)
      refine z_let (rng_div _ _) hf (fun x4 rx4 hf => ?_)
      refine lv_istore_n (lv' := [(3, .int (ii x4)), (2, .ref (B + u2)), (4, .int (ii v4))]) cx.1 cx.2.1 dX2_decode_30 rfl hl (by decide) rfl (fun ls hl => ?_)
      refine z_iinc cx (fun x5 => [(4, .int (ii x5)), (3, .int (ii x4)), (2, .ref (B + u2))]) dX2_decode_31 hl (k := 2) rfl (by decide) (fun _ => rfl) hf (fun x5 rx5 hf ls hl => ?_)
      refine lv_goto (tgt := 13) cx.1 cx.2.1 dX2_decode_34 (by decide) ?_
      exact ih x4 x5 h _ _ ls rx4 rx5 hp (lv_sub hl [2, 1, 0] rfl) hf
def fX2_decode (F : Nat) (a0 : Nat) (a1 : Int) (a2 : Nat) (h : HF) : RO :=
  zgd h a0 4 fun x1 =>
  zgf h x1 0 fun x2 =>
  zlet (wr (x2 - 1)) fun x3 =>
  zjn (fun  (h : HF) => (
    some (0, h)
  )) fun j37 =>
  LX2_decode_13 F a2 j37 F a1 x3 h
set_option maxHeartbeats 4000000 in
set_option maxRecDepth 100000 in
theorem mX2_decode (F : Nat) (l : Launch) (g : zG) (B : Nat) (h : HF) (a0 : Nat) (a1 : Int) (a2 : Nat) (ra0 : kt a0 = 5) (ra1 : rng a1) (ra2 : kt a2 = 0) : CTv l g B yX2_decode cX2_decode 5 0 [.ref (B + a0), .int (ii a1), .ref (B + a2)] h (fX2_decode F a0 a1 a2 h) := by
  refine z_enterV (by decide) rfl (Nat.le_of_ble_eq_true rfl) ?_
  intro p e s m args below meth c ls o Q cx hp hl hf hQ
  have hl : lv_has ls 5 [(0, .ref (B + a0)), (1, .int (ii a1)), (2, .ref (B + a2))] := hl
  unfold fX2_decode at hf
  refine lv_iload_n cx.1 cx.2.1 dX2_decode_0 rfl (lv_at hl 1 rfl) ?_
  refine lv_istore_n (lv' := [(3, .int (ii a1)), (0, .ref (B + a0)), (1, .int (ii a1)), (2, .ref (B + a2))]) cx.1 cx.2.1 dX2_decode_1 rfl hl (by decide) rfl (fun ls hl => ?_)
  refine lv_aload_n cx.1 cx.2.1 dX2_decode_2 rfl (lv_at hl 1 rfl) ?_
  refine z_getd cx hp (T := TX2) 2 4 3 rfl zin_2 (by decide) (by decide) ra0 rfl fl_X2_21 dX2_decode_3 hf (fun x1 rx1 hf => ?_)
  refine z_geti cx hp (T := TX0) 0 0 rfl zin_0 (by decide) (by decide) rx1 rfl fl_X2_39 dX2_decode_6 hf (fun x2 rx2 hf => ?_)
  refine z_iconst cx dX2_decode_9 ?_
  refine z_isub cx dX2_decode_10 ?_
  refine z_let (rng_wr _) hf (fun x3 rx3 hf => ?_)
  refine lv_istore (lv' := [(4, .int (ii x3)), (3, .int (ii a1)), (0, .ref (B + a0)), (1, .int (ii a1)), (2, .ref (B + a2))]) cx.1 cx.2.1 dX2_decode_11 hl (by decide) rfl (fun ls hl => ?_)
  refine z_jn hf (fun j => ∀  (h : HF) (H : Heap) (locs : List Loc) (ls : Array Slot), Hp g B s h H locs → lv_has ls 5 [] → j  h = some o → W p l e (rmn 0) s m args below meth c H locs 0 0 Q (F0 m 37 ls [])) ?_ (fun j37 hj37 hf => ?_)
  · intro  h H locs ls  hp hl hf
    rw [hQ]; exact z_vret cx hp dX2_decode_37 hf
  exact wX2_decode_13 F cx a2 ra2 j37 hj37 F a1 x3 h _ _ ls ra1 rx3 hp (lv_sub hl [4, 1, 0] rfl) hf
theorem dX2_join_0 : decode cX2_join 0 = .ok (.aload_n 0, 1) := by decide +kernel
theorem dX2_join_1 : decode cX2_join 1 = .ok (.getfield 15, 3) := by decide +kernel
theorem dX2_join_4 : decode cX2_join 4 = .ok (.iload_n 1, 1) := by decide +kernel
theorem dX2_join_5 : decode cX2_join 5 = .ok (.iaload, 1) := by decide +kernel
theorem dX2_join_6 : decode cX2_join 6 = .ok (.aload_n 0, 1) := by decide +kernel
theorem dX2_join_7 : decode cX2_join 7 = .ok (.getfield 15, 3) := by decide +kernel
theorem dX2_join_10 : decode cX2_join 10 = .ok (.iload_n 2, 1) := by decide +kernel
theorem dX2_join_11 : decode cX2_join 11 = .ok (.iaload, 1) := by decide +kernel
theorem dX2_join_12 : decode cX2_join 12 = .ok (.invokestatic 73, 3) := by decide +kernel
theorem dX2_join_15 : decode cX2_join 15 = .ok (.istore_n 3, 1) := by decide +kernel
theorem dX2_join_16 : decode cX2_join 16 = .ok (.aload_n 0, 1) := by decide +kernel
theorem dX2_join_17 : decode cX2_join 17 = .ok (.getfield 15, 3) := by decide +kernel
theorem dX2_join_20 : decode cX2_join 20 = .ok (.iload_n 1, 1) := by decide +kernel
theorem dX2_join_21 : decode cX2_join 21 = .ok (.iaload, 1) := by decide +kernel
theorem dX2_join_22 : decode cX2_join 22 = .ok (.aload_n 0, 1) := by decide +kernel
theorem dX2_join_23 : decode cX2_join 23 = .ok (.getfield 15, 3) := by decide +kernel
theorem dX2_join_26 : decode cX2_join 26 = .ok (.iload_n 2, 1) := by decide +kernel
theorem dX2_join_27 : decode cX2_join 27 = .ok (.iaload, 1) := by decide +kernel
theorem dX2_join_28 : decode cX2_join 28 = .ok (.invokestatic 79, 3) := by decide +kernel
theorem dX2_join_31 : decode cX2_join 31 = .ok (.istore 4, 2) := by decide +kernel
theorem dX2_join_33 : decode cX2_join 33 = .ok (.iconst 0, 1) := by decide +kernel
theorem dX2_join_34 : decode cX2_join 34 = .ok (.istore 5, 2) := by decide +kernel
theorem dX2_join_36 : decode cX2_join 36 = .ok (.iload 5, 2) := by decide +kernel
theorem dX2_join_38 : decode cX2_join 38 = .ok (.aload_n 0, 1) := by decide +kernel
theorem dX2_join_39 : decode cX2_join 39 = .ok (.getfield 21, 3) := by decide +kernel
theorem dX2_join_42 : decode cX2_join 42 = .ok (.getfield 39, 3) := by decide +kernel
theorem dX2_join_45 : decode cX2_join 45 = .ok (.if_icmp .ge 29, 3) := by decide +kernel
theorem dX2_join_48 : decode cX2_join 48 = .ok (.aload_n 0, 1) := by decide +kernel
theorem dX2_join_49 : decode cX2_join 49 = .ok (.getfield 15, 3) := by decide +kernel
theorem dX2_join_52 : decode cX2_join 52 = .ok (.iload 5, 2) := by decide +kernel
theorem dX2_join_54 : decode cX2_join 54 = .ok (.iaload, 1) := by decide +kernel
theorem dX2_join_55 : decode cX2_join 55 = .ok (.iload 4, 2) := by decide +kernel
theorem dX2_join_57 : decode cX2_join 57 = .ok (.if_icmp .ne 11, 3) := by decide +kernel
theorem dX2_join_60 : decode cX2_join 60 = .ok (.aload_n 0, 1) := by decide +kernel
theorem dX2_join_61 : decode cX2_join 61 = .ok (.getfield 15, 3) := by decide +kernel
theorem dX2_join_64 : decode cX2_join 64 = .ok (.iload 5, 2) := by decide +kernel
theorem dX2_join_66 : decode cX2_join 66 = .ok (.iload_n 3, 1) := by decide +kernel
theorem dX2_join_67 : decode cX2_join 67 = .ok (.iastore, 1) := by decide +kernel
theorem dX2_join_68 : decode cX2_join 68 = .ok (.iinc 5 1, 3) := by decide +kernel
theorem dX2_join_71 : decode cX2_join 71 = .ok (.goto (-35), 3) := by decide +kernel
theorem dX2_join_74 : decode cX2_join 74 = .ok (.return_, 1) := by decide +kernel
def LX2_join_36 (F : Nat) (u0 : Nat) (u3 : Int) (u4 : Int) (k74 : HF → RO) : Nat → Int → HF → RO
  | 0, _, _ => none
  | n + 1, v5, h =>
    zgd h u0 4 fun x7 =>
    zgf h x7 0 fun x8 =>
    if v5 < x8 then (
      zrd h (u0 + 2) v5 fun x9 =>
      zjn (fun (x68_5 : Int) (h : HF) => (
        zlet (wr (x68_5 + 1)) fun x10 =>
        LX2_join_36 F u0 u3 u4 k74 n x10 h
      )) fun j68 =>
      if x9 = u4 then (
        zwr h (u0 + 2) v5 u3 fun h =>
        j68 v5 h
      ) else (
        j68 v5 h
      )
    ) else (
      k74  h
    )
set_option maxHeartbeats 4000000 in
set_option maxRecDepth 100000 in
theorem wX2_join_36 {p : Program} {l : Launch} {e : Env} {s : State} {m : MethodId} {args : Array Value} {below : List Frame} {meth : Method} {c : Code} {Q : State → Prop} {g : zG} {B : Nat} {o : Int × HF} (F : Nat) (cx : Cx p s m args meth c cX2_join 6 RX2 none g B) (u0 : Nat) (ru0 : kt u0 = 5) (u3 : Int) (ru3 : rng u3) (u4 : Int) (ru4 : rng u4) (k74 : HF → RO) (hk74 : ∀  (h : HF) (H : Heap) (locs : List Loc) (ls : Array Slot), Hp g B s h H locs → lv_has ls 6 [] → k74  h = some o → W p l e (rmn 1) s m args below meth c H locs 0 0 Q (F0 m 74 ls [])) : ∀ (n : Nat) (v5 : Int) (h : HF) (H : Heap) (locs : List Loc) (ls : Array Slot), rng v5 → Hp g B s h H locs → lv_has ls 6 [(0, .ref (B + u0)), (3, .int (ii u3)), (4, .int (ii u4)), (5, .int (ii v5))] → LX2_join_36 F u0 u3 u4 k74 n v5 h = some o → W p l e (rmn 1) s m args below meth c H locs 0 0 Q (F0 m 36 ls []) := by
  intro n
  induction n with
  | zero =>
    intro v5 h H locs ls rv5 hp hl hf
    cases hf
  | succ n ih =>
    intro v5 h H locs ls rv5 hp hl hf
    rw [LX2_join_36] at hf
    refine lv_iload cx.1 cx.2.1 dX2_join_36 (lv_at hl 3 rfl) ?_
    refine lv_aload_n cx.1 cx.2.1 dX2_join_38 rfl (lv_at hl 0 rfl) ?_
    refine z_getd cx hp (T := TX2) 2 4 3 rfl zin_2 (by decide) (by decide) ru0 rfl fl_X2_21 dX2_join_39 hf (fun x7 rx7 hf => ?_)
    refine z_geti cx hp (T := TX0) 0 0 rfl zin_0 (by decide) (by decide) rx7 rfl fl_X2_39 dX2_join_42 hf (fun x8 rx8 hf => ?_)
    refine z_icmp_ge cx rv5 rx8 (tgt := 74) dX2_join_45 (by decide) hf (fun _ hf => ?_) (fun _ hf => ?_)
    · refine lv_aload_n cx.1 cx.2.1 dX2_join_48 rfl (lv_at hl 0 rfl) ?_
      refine z_gets cx hp (T := TX2) 2 2 (u0 + 2) rfl zin_2 (by decide) (by decide) ru0 rfl fl_X2_15 dX2_join_49 ?_
      refine lv_iload cx.1 cx.2.1 dX2_join_52 (lv_at hl 3 rfl) ?_
      refine z_iald cx hp (zs_2_2 u0 (kt_lt ru0 (by decide)) ru0) rv5 dX2_join_54 hf (fun x9 rx9 hf => ?_)
      refine lv_iload cx.1 cx.2.1 dX2_join_55 (lv_at hl 2 rfl) ?_
      refine z_jn hf (fun j => ∀ (x68_5 : Int) (h : HF) (H : Heap) (locs : List Loc) (ls : Array Slot), rng x68_5 → Hp g B s h H locs → lv_has ls 6 [(0, .ref (B + u0)), (3, .int (ii u3)), (4, .int (ii u4)), (5, .int (ii x68_5))] → j x68_5 h = some o → W p l e (rmn 1) s m args below meth c H locs 0 0 Q (F0 m 68 ls [])) ?_ (fun j68 hj68 hf => ?_)
      · intro x68_5 h H locs ls rx68_5 hp hl hf
        refine z_iinc cx (fun x10 => [(5, .int (ii x10)), (0, .ref (B + u0)), (3, .int (ii u3)), (4, .int (ii u4))]) dX2_join_68 hl (k := 3) rfl (by decide) (fun _ => rfl) hf (fun x10 rx10 hf ls hl => ?_)
        refine lv_goto (tgt := 36) cx.1 cx.2.1 dX2_join_71 (by decide) ?_
        exact ih x10 h _ _ ls rx10 hp (lv_sub hl [1, 2, 3, 0] rfl) hf
      refine z_icmp_ne cx rx9 ru4 (tgt := 68) dX2_join_57 (by decide) hf (fun _ hf => ?_) (fun _ hf => ?_)
      · refine lv_aload_n cx.1 cx.2.1 dX2_join_60 rfl (lv_at hl 0 rfl) ?_
        refine z_gets cx hp (T := TX2) 2 2 (u0 + 2) rfl zin_2 (by decide) (by decide) ru0 rfl fl_X2_15 dX2_join_61 ?_
        refine lv_iload cx.1 cx.2.1 dX2_join_64 (lv_at hl 3 rfl) ?_
        refine lv_iload_n cx.1 cx.2.1 dX2_join_66 rfl (lv_at hl 1 rfl) ?_
        refine z_iast cx hp (zs_2_2 u0 (kt_lt ru0 (by decide)) ru0) rv5 ru3 dX2_join_67 hf (fun h H locs hp hf => ?_)
        exact hj68 v5 h _ _ ls rv5 hp (lv_sub hl [0, 1, 2, 3] rfl) hf
      · exact hj68 v5 h _ _ ls rv5 hp (lv_sub hl [0, 1, 2, 3] rfl) hf
    · exact hk74  h _ _ ls  hp (lv_sub hl [] rfl) hf
def fX2_join (F : Nat) (a0 : Nat) (a1 : Int) (a2 : Int) (h : HF) : RO :=
  zrd h (a0 + 2) a1 fun x1 =>
  zrd h (a0 + 2) a2 fun x2 =>
  zlet (zmin x1 x2) fun x3 =>
  zrd h (a0 + 2) a1 fun x4 =>
  zrd h (a0 + 2) a2 fun x5 =>
  zlet (zmax x4 x5) fun x6 =>
  zjn (fun  (h : HF) => (
    some (0, h)
  )) fun j74 =>
  LX2_join_36 F a0 x3 x6 j74 F 0 h
set_option maxHeartbeats 4000000 in
set_option maxRecDepth 100000 in
theorem mX2_join (F : Nat) (l : Launch) (g : zG) (B : Nat) (h : HF) (a0 : Nat) (a1 : Int) (a2 : Int) (ra0 : kt a0 = 5) (ra1 : rng a1) (ra2 : rng a2) : CTv l g B yX2_join cX2_join 6 1 [.ref (B + a0), .int (ii a1), .int (ii a2)] h (fX2_join F a0 a1 a2 h) := by
  refine z_enterV (by decide) rfl (Nat.le_of_ble_eq_true rfl) ?_
  intro p e s m args below meth c ls o Q cx hp hl hf hQ
  have hl : lv_has ls 6 [(0, .ref (B + a0)), (1, .int (ii a1)), (2, .int (ii a2))] := hl
  unfold fX2_join at hf
  refine lv_aload_n cx.1 cx.2.1 dX2_join_0 rfl (lv_at hl 0 rfl) ?_
  refine z_gets cx hp (T := TX2) 2 2 (a0 + 2) rfl zin_2 (by decide) (by decide) ra0 rfl fl_X2_15 dX2_join_1 ?_
  refine lv_iload_n cx.1 cx.2.1 dX2_join_4 rfl (lv_at hl 1 rfl) ?_
  refine z_iald cx hp (zs_2_2 a0 (kt_lt ra0 (by decide)) ra0) ra1 dX2_join_5 hf (fun x1 rx1 hf => ?_)
  refine lv_aload_n cx.1 cx.2.1 dX2_join_6 rfl (lv_at hl 0 rfl) ?_
  refine z_gets cx hp (T := TX2) 2 2 (a0 + 2) rfl zin_2 (by decide) (by decide) ra0 rfl fl_X2_15 dX2_join_7 ?_
  refine lv_iload_n cx.1 cx.2.1 dX2_join_10 rfl (lv_at hl 2 rfl) ?_
  refine z_iald cx hp (zs_2_2 a0 (kt_lt ra0 (by decide)) ra0) ra2 dX2_join_11 hf (fun x2 rx2 hf => ?_)
  refine z_mmin cx (n := 1) rx1 rx2 hl.1 (Nat.le_of_ble_eq_true rfl) mx_X2_73 (by decide) dX2_join_12 ?_
  refine z_let (rng_min rx1 rx2) hf (fun x3 rx3 hf => ?_)
  refine lv_istore_n (lv' := [(3, .int (ii x3)), (0, .ref (B + a0)), (1, .int (ii a1)), (2, .int (ii a2))]) cx.1 cx.2.1 dX2_join_15 rfl hl (by decide) rfl (fun ls hl => ?_)
  refine lv_aload_n cx.1 cx.2.1 dX2_join_16 rfl (lv_at hl 1 rfl) ?_
  refine z_gets cx hp (T := TX2) 2 2 (a0 + 2) rfl zin_2 (by decide) (by decide) ra0 rfl fl_X2_15 dX2_join_17 ?_
  refine lv_iload_n cx.1 cx.2.1 dX2_join_20 rfl (lv_at hl 2 rfl) ?_
  refine z_iald cx hp (zs_2_2 a0 (kt_lt ra0 (by decide)) ra0) ra1 dX2_join_21 hf (fun x4 rx4 hf => ?_)
  refine lv_aload_n cx.1 cx.2.1 dX2_join_22 rfl (lv_at hl 1 rfl) ?_
  refine z_gets cx hp (T := TX2) 2 2 (a0 + 2) rfl zin_2 (by decide) (by decide) ra0 rfl fl_X2_15 dX2_join_23 ?_
  refine lv_iload_n cx.1 cx.2.1 dX2_join_26 rfl (lv_at hl 3 rfl) ?_
  refine z_iald cx hp (zs_2_2 a0 (kt_lt ra0 (by decide)) ra0) ra2 dX2_join_27 hf (fun x5 rx5 hf => ?_)
  refine z_mmax cx (n := 1) rx4 rx5 hl.1 (Nat.le_of_ble_eq_true rfl) mx_X2_79 (by decide) dX2_join_28 ?_
  refine z_let (rng_max rx4 rx5) hf (fun x6 rx6 hf => ?_)
  refine lv_istore (lv' := [(4, .int (ii x6)), (3, .int (ii x3)), (0, .ref (B + a0)), (1, .int (ii a1)), (2, .int (ii a2))]) cx.1 cx.2.1 dX2_join_31 hl (by decide) rfl (fun ls hl => ?_)
  refine z_iconst cx dX2_join_33 ?_
  refine lv_istore (lv' := [(5, .int (ii 0)), (4, .int (ii x6)), (3, .int (ii x3)), (0, .ref (B + a0)), (1, .int (ii a1)), (2, .int (ii a2))]) cx.1 cx.2.1 dX2_join_34 hl (by decide) rfl (fun ls hl => ?_)
  refine z_jn hf (fun j => ∀  (h : HF) (H : Heap) (locs : List Loc) (ls : Array Slot), Hp g B s h H locs → lv_has ls 6 [] → j  h = some o → W p l e (rmn 1) s m args below meth c H locs 0 0 Q (F0 m 74 ls [])) ?_ (fun j74 hj74 hf => ?_)
  · intro  h H locs ls  hp hl hf
    rw [hQ]; exact z_vret cx hp dX2_join_74 hf
  exact wX2_join_36 F cx a0 ra0 x3 rx3 x6 rx6 j74 hj74 F 0 h _ _ ls (by decide) hp (lv_sub hl [3, 2, 1, 0] rfl) hf
theorem dX4_isHeld_0 : decode cX4_isHeld 0 = .ok (.aload_n 0, 1) := by decide +kernel
theorem dX4_isHeld_1 : decode cX4_isHeld 1 = .ok (.getfield 33, 3) := by decide +kernel
theorem dX4_isHeld_4 : decode cX4_isHeld 4 = .ok (.ifCond .le 7, 3) := by decide +kernel
theorem dX4_isHeld_7 : decode cX4_isHeld 7 = .ok (.iconst 1, 1) := by decide +kernel
theorem dX4_isHeld_8 : decode cX4_isHeld 8 = .ok (.goto 4, 3) := by decide +kernel
theorem dX4_isHeld_11 : decode cX4_isHeld 11 = .ok (.iconst 0, 1) := by decide +kernel
theorem dX4_isHeld_12 : decode cX4_isHeld 12 = .ok (.ireturn, 1) := by decide +kernel
def fX4_isHeld (F : Nat) (a0 : Nat) (h : HF) : RO :=
  zgf h a0 0 fun x1 =>
  zjn (fun (y12_0 : Int) (h : HF) => (
    zrz y12_0 h
  )) fun j12 =>
  if 0 < x1 then (
    j12 1 h
  ) else (
    j12 0 h
  )
set_option maxHeartbeats 4000000 in
set_option maxRecDepth 100000 in
theorem mX4_isHeld (F : Nat) (l : Launch) (g : zG) (B : Nat) (h : HF) (a0 : Nat) (ra0 : kt a0 = 7) : CTi l g B yX4_isHeld cX4_isHeld 1 (some .boolean) 0 [.ref (B + a0)] h (fX4_isHeld F a0 h) := by
  refine z_enterI (by decide) rfl (Nat.le_of_ble_eq_true rfl) ?_
  intro p e s m args below meth c ls o Q cx hp hl hf hQ
  have hl : lv_has ls 1 [(0, .ref (B + a0))] := hl
  unfold fX4_isHeld at hf
  refine lv_aload_n cx.1 cx.2.1 dX4_isHeld_0 rfl (lv_at hl 0 rfl) ?_
  refine z_geti cx hp (T := TX4) 4 0 rfl zin_4 (by decide) (by decide) ra0 rfl fl_X4_33 dX4_isHeld_1 hf (fun x1 rx1 hf => ?_)
  refine z_jn hf (fun j => ∀ (y12_0 : Int) (h : HF) (H : Heap) (locs : List Loc) (ls : Array Slot), rng y12_0 → Hp g B s h H locs → lv_has ls 1 [] → j y12_0 h = some o → W p l e (rmn 0) s m args below meth c H locs 0 0 Q (F0 m 12 ls [.int (ii y12_0)])) ?_ (fun j12 hj12 hf => ?_)
  · intro y12_0 h H locs ls ry12_0 hp hl hf
    rw [hQ]; exact z_zret cx hp dX4_isHeld_12 hf
  refine z_if_le cx rx1 (tgt := 11) dX4_isHeld_4 (by decide) hf (fun _ hf => ?_) (fun _ hf => ?_)
  · refine z_iconst cx dX4_isHeld_7 ?_
    refine lv_goto (tgt := 12) cx.1 cx.2.1 dX4_isHeld_8 (by decide) ?_
    exact hj12 1 h _ _ ls (by decide) hp (lv_sub hl [] rfl) hf
  · refine z_iconst cx dX4_isHeld_11 ?_
    exact hj12 0 h _ _ ls (by decide) hp (lv_sub hl [] rfl) hf
theorem dX4_addTerm_0 : decode cX4_addTerm 0 = .ok (.aload_n 0, 1) := by decide +kernel
theorem dX4_addTerm_1 : decode cX4_addTerm 1 = .ok (.getfield 40, 3) := by decide +kernel
theorem dX4_addTerm_4 : decode cX4_addTerm 4 = .ok (.istore_n 2, 1) := by decide +kernel
theorem dX4_addTerm_5 : decode cX4_addTerm 5 = .ok (.aload_n 0, 1) := by decide +kernel
theorem dX4_addTerm_6 : decode cX4_addTerm 6 = .ok (.getfield 24, 3) := by decide +kernel
theorem dX4_addTerm_9 : decode cX4_addTerm 9 = .ok (.iload_n 2, 1) := by decide +kernel
theorem dX4_addTerm_10 : decode cX4_addTerm 10 = .ok (.iload_n 1, 1) := by decide +kernel
theorem dX4_addTerm_11 : decode cX4_addTerm 11 = .ok (.iastore, 1) := by decide +kernel
theorem dX4_addTerm_12 : decode cX4_addTerm 12 = .ok (.aload_n 0, 1) := by decide +kernel
theorem dX4_addTerm_13 : decode cX4_addTerm 13 = .ok (.getfield 27, 3) := by decide +kernel
theorem dX4_addTerm_16 : decode cX4_addTerm 16 = .ok (.iload_n 2, 1) := by decide +kernel
theorem dX4_addTerm_17 : decode cX4_addTerm 17 = .ok (.iconst 0, 1) := by decide +kernel
theorem dX4_addTerm_18 : decode cX4_addTerm 18 = .ok (.iastore, 1) := by decide +kernel
theorem dX4_addTerm_19 : decode cX4_addTerm 19 = .ok (.iload_n 1, 1) := by decide +kernel
theorem dX4_addTerm_20 : decode cX4_addTerm 20 = .ok (.iconst 3, 1) := by decide +kernel
theorem dX4_addTerm_21 : decode cX4_addTerm 21 = .ok (.if_icmp .ge 18, 3) := by decide +kernel
theorem dX4_addTerm_24 : decode cX4_addTerm 24 = .ok (.aload_n 0, 1) := by decide +kernel
theorem dX4_addTerm_25 : decode cX4_addTerm 25 = .ok (.getfield 15, 3) := by decide +kernel
theorem dX4_addTerm_28 : decode cX4_addTerm 28 = .ok (.aload_n 0, 1) := by decide +kernel
theorem dX4_addTerm_29 : decode cX4_addTerm 29 = .ok (.getfield 33, 3) := by decide +kernel
theorem dX4_addTerm_32 : decode cX4_addTerm 32 = .ok (.dup2, 1) := by decide +kernel
theorem dX4_addTerm_33 : decode cX4_addTerm 33 = .ok (.iaload, 1) := by decide +kernel
theorem dX4_addTerm_34 : decode cX4_addTerm 34 = .ok (.iconst 1, 1) := by decide +kernel
theorem dX4_addTerm_35 : decode cX4_addTerm 35 = .ok (.iload_n 1, 1) := by decide +kernel
theorem dX4_addTerm_36 : decode cX4_addTerm 36 = .ok (.ishl, 1) := by decide +kernel
theorem dX4_addTerm_37 : decode cX4_addTerm 37 = .ok (.ior, 1) := by decide +kernel
theorem dX4_addTerm_38 : decode cX4_addTerm 38 = .ok (.iastore, 1) := by decide +kernel
theorem dX4_addTerm_39 : decode cX4_addTerm 39 = .ok (.aload_n 0, 1) := by decide +kernel
theorem dX4_addTerm_40 : decode cX4_addTerm 40 = .ok (.dup, 1) := by decide +kernel
theorem dX4_addTerm_41 : decode cX4_addTerm 41 = .ok (.getfield 40, 3) := by decide +kernel
theorem dX4_addTerm_44 : decode cX4_addTerm 44 = .ok (.iconst 1, 1) := by decide +kernel
theorem dX4_addTerm_45 : decode cX4_addTerm 45 = .ok (.iadd, 1) := by decide +kernel
theorem dX4_addTerm_46 : decode cX4_addTerm 46 = .ok (.putfield 40, 3) := by decide +kernel
theorem dX4_addTerm_49 : decode cX4_addTerm 49 = .ok (.iload_n 2, 1) := by decide +kernel
theorem dX4_addTerm_50 : decode cX4_addTerm 50 = .ok (.ireturn, 1) := by decide +kernel
def fX4_addTerm (F : Nat) (a0 : Nat) (a1 : Int) (h : HF) : RO :=
  zgf h a0 2 fun x1 =>
  zwr h (a0 + 5) x1 a1 fun h =>
  zwr h (a0 + 6) x1 0 fun h =>
  zjn (fun (x39_2 : Int) (h : HF) => (
    zgf h a0 2 fun x2 =>
    zpf h a0 2 (wr (x2 + 1)) fun h =>
    some (x39_2, h)
  )) fun j39 =>
  if a1 < 3 then (
    zgf h a0 0 fun x3 =>
    zrd h (a0 + 2) x3 fun x4 =>
    zwr h (a0 + 2) x3 (wor x4 (wshl 1 a1)) fun h =>
    j39 x1 h
  ) else (
    j39 x1 h
  )
set_option maxHeartbeats 4000000 in
set_option maxRecDepth 100000 in
theorem mX4_addTerm (F : Nat) (l : Launch) (g : zG) (B : Nat) (h : HF) (a0 : Nat) (a1 : Int) (ra0 : kt a0 = 7) (ra1 : rng a1) : CTi l g B yX4_addTerm cX4_addTerm 3 (some .int) 0 [.ref (B + a0), .int (ii a1)] h (fX4_addTerm F a0 a1 h) := by
  refine z_enterI (by decide) rfl (Nat.le_of_ble_eq_true rfl) ?_
  intro p e s m args below meth c ls o Q cx hp hl hf hQ
  have hl : lv_has ls 3 [(0, .ref (B + a0)), (1, .int (ii a1))] := hl
  unfold fX4_addTerm at hf
  refine lv_aload_n cx.1 cx.2.1 dX4_addTerm_0 rfl (lv_at hl 0 rfl) ?_
  refine z_geti cx hp (T := TX4) 4 2 rfl zin_4 (by decide) (by decide) ra0 rfl fl_X4_40 dX4_addTerm_1 hf (fun x1 rx1 hf => ?_)
  refine lv_istore_n (lv' := [(2, .int (ii x1)), (0, .ref (B + a0)), (1, .int (ii a1))]) cx.1 cx.2.1 dX4_addTerm_4 rfl hl (by decide) rfl (fun ls hl => ?_)
  refine lv_aload_n cx.1 cx.2.1 dX4_addTerm_5 rfl (lv_at hl 1 rfl) ?_
  refine z_gets cx hp (T := TX4) 4 7 (a0 + 5) rfl zin_4 (by decide) (by decide) ra0 rfl fl_X4_24 dX4_addTerm_6 ?_
  refine lv_iload_n cx.1 cx.2.1 dX4_addTerm_9 rfl (lv_at hl 0 rfl) ?_
  refine lv_iload_n cx.1 cx.2.1 dX4_addTerm_10 rfl (lv_at hl 2 rfl) ?_
  refine z_iast cx hp (zs_4_7 a0 (kt_lt ra0 (by decide)) ra0) rx1 ra1 dX4_addTerm_11 hf (fun h H locs hp hf => ?_)
  refine lv_aload_n cx.1 cx.2.1 dX4_addTerm_12 rfl (lv_at hl 1 rfl) ?_
  refine z_gets cx hp (T := TX4) 4 8 (a0 + 6) rfl zin_4 (by decide) (by decide) ra0 rfl fl_X4_27 dX4_addTerm_13 ?_
  refine lv_iload_n cx.1 cx.2.1 dX4_addTerm_16 rfl (lv_at hl 0 rfl) ?_
  refine z_iconst cx dX4_addTerm_17 ?_
  refine z_iast cx hp (zs_4_8 a0 (kt_lt ra0 (by decide)) ra0) rx1 (by decide) dX4_addTerm_18 hf (fun h H locs hp hf => ?_)
  refine lv_iload_n cx.1 cx.2.1 dX4_addTerm_19 rfl (lv_at hl 2 rfl) ?_
  refine z_iconst cx dX4_addTerm_20 ?_
  refine z_jn hf (fun j => ∀ (x39_2 : Int) (h : HF) (H : Heap) (locs : List Loc) (ls : Array Slot), rng x39_2 → Hp g B s h H locs → lv_has ls 3 [(0, .ref (B + a0)), (2, .int (ii x39_2))] → j x39_2 h = some o → W p l e (rmn 0) s m args below meth c H locs 0 0 Q (F0 m 39 ls [])) ?_ (fun j39 hj39 hf => ?_)
  · intro x39_2 h H locs ls rx39_2 hp hl hf
    refine lv_aload_n cx.1 cx.2.1 dX4_addTerm_39 rfl (lv_at hl 0 rfl) ?_
    refine lv_dup cx.1 cx.2.1 dX4_addTerm_40 rfl ?_
    refine z_geti cx hp (T := TX4) 4 2 rfl zin_4 (by decide) (by decide) ra0 rfl fl_X4_40 dX4_addTerm_41 hf (fun x2 rx2 hf => ?_)
    refine z_iconst cx dX4_addTerm_44 ?_
    refine z_iadd cx dX4_addTerm_45 ?_
    refine z_puti cx hp (T := TX4) tyX4 tyX4_ok nmX4 4 2 (rng_wr _) rfl zin_4 (by decide) (by decide) ra0 rfl rfl rfl fl_X4_40 dX4_addTerm_46 hf (fun h H locs hp hf => ?_)
    refine lv_iload_n cx.1 cx.2.1 dX4_addTerm_49 rfl (lv_at hl 1 rfl) ?_
    rw [hQ]; exact z_iret cx hp rx39_2 dX4_addTerm_50 hf
  refine z_icmp_ge cx ra1 (by decide) (tgt := 39) dX4_addTerm_21 (by decide) hf (fun _ hf => ?_) (fun _ hf => ?_)
  · refine lv_aload_n cx.1 cx.2.1 dX4_addTerm_24 rfl (lv_at hl 1 rfl) ?_
    refine z_gets cx hp (T := TX4) 4 4 (a0 + 2) rfl zin_4 (by decide) (by decide) ra0 rfl fl_X4_15 dX4_addTerm_25 ?_
    refine lv_aload_n cx.1 cx.2.1 dX4_addTerm_28 rfl (lv_at hl 1 rfl) ?_
    refine z_geti cx hp (T := TX4) 4 0 rfl zin_4 (by decide) (by decide) ra0 rfl fl_X4_33 dX4_addTerm_29 hf (fun x3 rx3 hf => ?_)
    refine lv_dup2_11 cx.1 cx.2.1 dX4_addTerm_32 rfl rfl ?_
    refine z_iald cx hp (zs_4_4 a0 (kt_lt ra0 (by decide)) ra0) rx3 dX4_addTerm_33 hf (fun x4 rx4 hf => ?_)
    refine z_iconst cx dX4_addTerm_34 ?_
    refine lv_iload_n cx.1 cx.2.1 dX4_addTerm_35 rfl (lv_at hl 2 rfl) ?_
    refine z_ishl cx dX4_addTerm_36 ?_
    refine z_ior cx dX4_addTerm_37 ?_
    refine z_iast cx hp (zs_4_4 a0 (kt_lt ra0 (by decide)) ra0) rx3 (rng_or _ _) dX4_addTerm_38 hf (fun h H locs hp hf => ?_)
    exact hj39 x1 h _ _ ls rx1 hp (lv_sub hl [1, 0] rfl) hf
  · exact hj39 x1 h _ _ ls rx1 hp (lv_sub hl [1, 0] rfl) hf
theorem dX4_endSame_0 : decode cX4_endSame 0 = .ok (.aload_n 0, 1) := by decide +kernel
theorem dX4_endSame_1 : decode cX4_endSame 1 = .ok (.getfield 21, 3) := by decide +kernel
theorem dX4_endSame_4 : decode cX4_endSame 4 = .ok (.aload_n 0, 1) := by decide +kernel
theorem dX4_endSame_5 : decode cX4_endSame 5 = .ok (.getfield 37, 3) := by decide +kernel
theorem dX4_endSame_8 : decode cX4_endSame 8 = .ok (.iload_n 1, 1) := by decide +kernel
theorem dX4_endSame_9 : decode cX4_endSame 9 = .ok (.iastore, 1) := by decide +kernel
theorem dX4_endSame_10 : decode cX4_endSame 10 = .ok (.aload_n 0, 1) := by decide +kernel
theorem dX4_endSame_11 : decode cX4_endSame 11 = .ok (.dup, 1) := by decide +kernel
theorem dX4_endSame_12 : decode cX4_endSame 12 = .ok (.getfield 37, 3) := by decide +kernel
theorem dX4_endSame_15 : decode cX4_endSame 15 = .ok (.iconst 1, 1) := by decide +kernel
theorem dX4_endSame_16 : decode cX4_endSame 16 = .ok (.iadd, 1) := by decide +kernel
theorem dX4_endSame_17 : decode cX4_endSame 17 = .ok (.putfield 37, 3) := by decide +kernel
theorem dX4_endSame_20 : decode cX4_endSame 20 = .ok (.aload_n 0, 1) := by decide +kernel
theorem dX4_endSame_21 : decode cX4_endSame 21 = .ok (.getfield 18, 3) := by decide +kernel
theorem dX4_endSame_24 : decode cX4_endSame 24 = .ok (.aload_n 0, 1) := by decide +kernel
theorem dX4_endSame_25 : decode cX4_endSame 25 = .ok (.getfield 37, 3) := by decide +kernel
theorem dX4_endSame_28 : decode cX4_endSame 28 = .ok (.aload_n 0, 1) := by decide +kernel
theorem dX4_endSame_29 : decode cX4_endSame 29 = .ok (.getfield 40, 3) := by decide +kernel
theorem dX4_endSame_32 : decode cX4_endSame 32 = .ok (.iastore, 1) := by decide +kernel
theorem dX4_endSame_33 : decode cX4_endSame 33 = .ok (.return_, 1) := by decide +kernel
def fX4_endSame (F : Nat) (a0 : Nat) (a1 : Int) (h : HF) : RO :=
  zgf h a0 1 fun x1 =>
  zwr h (a0 + 4) x1 a1 fun h =>
  zgf h a0 1 fun x2 =>
  zpf h a0 1 (wr (x2 + 1)) fun h =>
  zgf h a0 1 fun x3 =>
  zgf h a0 2 fun x4 =>
  zwr h (a0 + 3) x3 x4 fun h =>
  some (0, h)
set_option maxHeartbeats 4000000 in
set_option maxRecDepth 100000 in
theorem mX4_endSame (F : Nat) (l : Launch) (g : zG) (B : Nat) (h : HF) (a0 : Nat) (a1 : Int) (ra0 : kt a0 = 7) (ra1 : rng a1) : CTv l g B yX4_endSame cX4_endSame 2 0 [.ref (B + a0), .int (ii a1)] h (fX4_endSame F a0 a1 h) := by
  refine z_enterV (by decide) rfl (Nat.le_of_ble_eq_true rfl) ?_
  intro p e s m args below meth c ls o Q cx hp hl hf hQ
  have hl : lv_has ls 2 [(0, .ref (B + a0)), (1, .int (ii a1))] := hl
  unfold fX4_endSame at hf
  refine lv_aload_n cx.1 cx.2.1 dX4_endSame_0 rfl (lv_at hl 0 rfl) ?_
  refine z_gets cx hp (T := TX4) 4 6 (a0 + 4) rfl zin_4 (by decide) (by decide) ra0 rfl fl_X4_21 dX4_endSame_1 ?_
  refine lv_aload_n cx.1 cx.2.1 dX4_endSame_4 rfl (lv_at hl 0 rfl) ?_
  refine z_geti cx hp (T := TX4) 4 1 rfl zin_4 (by decide) (by decide) ra0 rfl fl_X4_37 dX4_endSame_5 hf (fun x1 rx1 hf => ?_)
  refine lv_iload_n cx.1 cx.2.1 dX4_endSame_8 rfl (lv_at hl 1 rfl) ?_
  refine z_iast cx hp (zs_4_6 a0 (kt_lt ra0 (by decide)) ra0) rx1 ra1 dX4_endSame_9 hf (fun h H locs hp hf => ?_)
  refine lv_aload_n cx.1 cx.2.1 dX4_endSame_10 rfl (lv_at hl 0 rfl) ?_
  refine lv_dup cx.1 cx.2.1 dX4_endSame_11 rfl ?_
  refine z_geti cx hp (T := TX4) 4 1 rfl zin_4 (by decide) (by decide) ra0 rfl fl_X4_37 dX4_endSame_12 hf (fun x2 rx2 hf => ?_)
  refine z_iconst cx dX4_endSame_15 ?_
  refine z_iadd cx dX4_endSame_16 ?_
  refine z_puti cx hp (T := TX4) tyX4 tyX4_ok nmX4 4 1 (rng_wr _) rfl zin_4 (by decide) (by decide) ra0 rfl rfl rfl fl_X4_37 dX4_endSame_17 hf (fun h H locs hp hf => ?_)
  refine lv_aload_n cx.1 cx.2.1 dX4_endSame_20 rfl (lv_at hl 0 rfl) ?_
  refine z_gets cx hp (T := TX4) 4 5 (a0 + 3) rfl zin_4 (by decide) (by decide) ra0 rfl fl_X4_18 dX4_endSame_21 ?_
  refine lv_aload_n cx.1 cx.2.1 dX4_endSame_24 rfl (lv_at hl 0 rfl) ?_
  refine z_geti cx hp (T := TX4) 4 1 rfl zin_4 (by decide) (by decide) ra0 rfl fl_X4_37 dX4_endSame_25 hf (fun x3 rx3 hf => ?_)
  refine lv_aload_n cx.1 cx.2.1 dX4_endSame_28 rfl (lv_at hl 0 rfl) ?_
  refine z_geti cx hp (T := TX4) 4 2 rfl zin_4 (by decide) (by decide) ra0 rfl fl_X4_40 dX4_endSame_29 hf (fun x4 rx4 hf => ?_)
  refine z_iast cx hp (zs_4_5 a0 (kt_lt ra0 (by decide)) ra0) rx3 rx4 dX4_endSame_32 hf (fun h H locs hp hf => ?_)
  rw [hQ]; exact z_vret cx hp dX4_endSame_33 hf
theorem dX4_endLaw_0 : decode cX4_endLaw 0 = .ok (.aload_n 0, 1) := by decide +kernel
theorem dX4_endLaw_1 : decode cX4_endLaw 1 = .ok (.dup, 1) := by decide +kernel
theorem dX4_endLaw_2 : decode cX4_endLaw 2 = .ok (.getfield 33, 3) := by decide +kernel
theorem dX4_endLaw_5 : decode cX4_endLaw 5 = .ok (.iconst 1, 1) := by decide +kernel
theorem dX4_endLaw_6 : decode cX4_endLaw 6 = .ok (.iadd, 1) := by decide +kernel
theorem dX4_endLaw_7 : decode cX4_endLaw 7 = .ok (.putfield 33, 3) := by decide +kernel
theorem dX4_endLaw_10 : decode cX4_endLaw 10 = .ok (.aload_n 0, 1) := by decide +kernel
theorem dX4_endLaw_11 : decode cX4_endLaw 11 = .ok (.getfield 9, 3) := by decide +kernel
theorem dX4_endLaw_14 : decode cX4_endLaw 14 = .ok (.aload_n 0, 1) := by decide +kernel
theorem dX4_endLaw_15 : decode cX4_endLaw 15 = .ok (.getfield 33, 3) := by decide +kernel
theorem dX4_endLaw_18 : decode cX4_endLaw 18 = .ok (.aload_n 0, 1) := by decide +kernel
theorem dX4_endLaw_19 : decode cX4_endLaw 19 = .ok (.getfield 37, 3) := by decide +kernel
theorem dX4_endLaw_22 : decode cX4_endLaw 22 = .ok (.iastore, 1) := by decide +kernel
theorem dX4_endLaw_23 : decode cX4_endLaw 23 = .ok (.return_, 1) := by decide +kernel
def fX4_endLaw (F : Nat) (a0 : Nat) (h : HF) : RO :=
  zgf h a0 0 fun x1 =>
  zpf h a0 0 (wr (x1 + 1)) fun h =>
  zgf h a0 0 fun x2 =>
  zgf h a0 1 fun x3 =>
  zwr h (a0 + 1) x2 x3 fun h =>
  some (0, h)
set_option maxHeartbeats 4000000 in
set_option maxRecDepth 100000 in
theorem mX4_endLaw (F : Nat) (l : Launch) (g : zG) (B : Nat) (h : HF) (a0 : Nat) (ra0 : kt a0 = 7) : CTv l g B yX4_endLaw cX4_endLaw 1 0 [.ref (B + a0)] h (fX4_endLaw F a0 h) := by
  refine z_enterV (by decide) rfl (Nat.le_of_ble_eq_true rfl) ?_
  intro p e s m args below meth c ls o Q cx hp hl hf hQ
  have hl : lv_has ls 1 [(0, .ref (B + a0))] := hl
  unfold fX4_endLaw at hf
  refine lv_aload_n cx.1 cx.2.1 dX4_endLaw_0 rfl (lv_at hl 0 rfl) ?_
  refine lv_dup cx.1 cx.2.1 dX4_endLaw_1 rfl ?_
  refine z_geti cx hp (T := TX4) 4 0 rfl zin_4 (by decide) (by decide) ra0 rfl fl_X4_33 dX4_endLaw_2 hf (fun x1 rx1 hf => ?_)
  refine z_iconst cx dX4_endLaw_5 ?_
  refine z_iadd cx dX4_endLaw_6 ?_
  refine z_puti cx hp (T := TX4) tyX4 tyX4_ok nmX4 4 0 (rng_wr _) rfl zin_4 (by decide) (by decide) ra0 rfl rfl rfl fl_X4_33 dX4_endLaw_7 hf (fun h H locs hp hf => ?_)
  refine lv_aload_n cx.1 cx.2.1 dX4_endLaw_10 rfl (lv_at hl 0 rfl) ?_
  refine z_gets cx hp (T := TX4) 4 3 (a0 + 1) rfl zin_4 (by decide) (by decide) ra0 rfl fl_X4_9 dX4_endLaw_11 ?_
  refine lv_aload_n cx.1 cx.2.1 dX4_endLaw_14 rfl (lv_at hl 0 rfl) ?_
  refine z_geti cx hp (T := TX4) 4 0 rfl zin_4 (by decide) (by decide) ra0 rfl fl_X4_33 dX4_endLaw_15 hf (fun x2 rx2 hf => ?_)
  refine lv_aload_n cx.1 cx.2.1 dX4_endLaw_18 rfl (lv_at hl 0 rfl) ?_
  refine z_geti cx hp (T := TX4) 4 1 rfl zin_4 (by decide) (by decide) ra0 rfl fl_X4_37 dX4_endLaw_19 hf (fun x3 rx3 hf => ?_)
  refine z_iast cx hp (zs_4_3 a0 (kt_lt ra0 (by decide)) ra0) rx2 rx3 dX4_endLaw_22 hf (fun h H locs hp hf => ?_)
  rw [hQ]; exact z_vret cx hp dX4_endLaw_23 hf
theorem dX4_fits_0 : decode cX4_fits 0 = .ok (.iconst 0, 1) := by decide +kernel
theorem dX4_fits_1 : decode cX4_fits 1 = .ok (.istore_n 2, 1) := by decide +kernel
theorem dX4_fits_2 : decode cX4_fits 2 = .ok (.iload_n 2, 1) := by decide +kernel
theorem dX4_fits_3 : decode cX4_fits 3 = .ok (.aload_n 0, 1) := by decide +kernel
theorem dX4_fits_4 : decode cX4_fits 4 = .ok (.getfield 40, 3) := by decide +kernel
theorem dX4_fits_7 : decode cX4_fits 7 = .ok (.if_icmp .ge 49, 3) := by decide +kernel
theorem dX4_fits_10 : decode cX4_fits 10 = .ok (.aload_n 0, 1) := by decide +kernel
theorem dX4_fits_11 : decode cX4_fits 11 = .ok (.getfield 24, 3) := by decide +kernel
theorem dX4_fits_14 : decode cX4_fits 14 = .ok (.iload_n 2, 1) := by decide +kernel
theorem dX4_fits_15 : decode cX4_fits 15 = .ok (.iaload, 1) := by decide +kernel
theorem dX4_fits_16 : decode cX4_fits 16 = .ok (.iconst 3, 1) := by decide +kernel
theorem dX4_fits_17 : decode cX4_fits 17 = .ok (.isub, 1) := by decide +kernel
theorem dX4_fits_18 : decode cX4_fits 18 = .ok (.istore_n 3, 1) := by decide +kernel
theorem dX4_fits_19 : decode cX4_fits 19 = .ok (.iload_n 3, 1) := by decide +kernel
theorem dX4_fits_20 : decode cX4_fits 20 = .ok (.aload_n 1, 1) := by decide +kernel
theorem dX4_fits_21 : decode cX4_fits 21 = .ok (.getfield 49, 3) := by decide +kernel
theorem dX4_fits_24 : decode cX4_fits 24 = .ok (.if_icmp .lt 5, 3) := by decide +kernel
theorem dX4_fits_27 : decode cX4_fits 27 = .ok (.iconst 0, 1) := by decide +kernel
theorem dX4_fits_28 : decode cX4_fits 28 = .ok (.ireturn, 1) := by decide +kernel
theorem dX4_fits_29 : decode cX4_fits 29 = .ok (.iload_n 3, 1) := by decide +kernel
theorem dX4_fits_30 : decode cX4_fits 30 = .ok (.ifCond .lt 20, 3) := by decide +kernel
theorem dX4_fits_33 : decode cX4_fits 33 = .ok (.aload_n 1, 1) := by decide +kernel
theorem dX4_fits_34 : decode cX4_fits 34 = .ok (.getfield 54, 3) := by decide +kernel
theorem dX4_fits_37 : decode cX4_fits 37 = .ok (.iload_n 3, 1) := by decide +kernel
theorem dX4_fits_38 : decode cX4_fits 38 = .ok (.iaload, 1) := by decide +kernel
theorem dX4_fits_39 : decode cX4_fits 39 = .ok (.aload_n 0, 1) := by decide +kernel
theorem dX4_fits_40 : decode cX4_fits 40 = .ok (.getfield 27, 3) := by decide +kernel
theorem dX4_fits_43 : decode cX4_fits 43 = .ok (.iload_n 2, 1) := by decide +kernel
theorem dX4_fits_44 : decode cX4_fits 44 = .ok (.iaload, 1) := by decide +kernel
theorem dX4_fits_45 : decode cX4_fits 45 = .ok (.if_icmp .eq 5, 3) := by decide +kernel
theorem dX4_fits_48 : decode cX4_fits 48 = .ok (.iconst 0, 1) := by decide +kernel
theorem dX4_fits_49 : decode cX4_fits 49 = .ok (.ireturn, 1) := by decide +kernel
theorem dX4_fits_50 : decode cX4_fits 50 = .ok (.iinc 2 1, 3) := by decide +kernel
theorem dX4_fits_53 : decode cX4_fits 53 = .ok (.goto (-51), 3) := by decide +kernel
theorem dX4_fits_56 : decode cX4_fits 56 = .ok (.iconst 1, 1) := by decide +kernel
theorem dX4_fits_57 : decode cX4_fits 57 = .ok (.ireturn, 1) := by decide +kernel
def LX4_fits_2 (F : Nat) (u0 : Nat) (u1 : Nat) (k56 : HF → RO) (k48 : HF → RO) (k27 : HF → RO) : Nat → Int → HF → RO
  | 0, _, _ => none
  | n + 1, v2, h =>
    zgf h u0 2 fun x1 =>
    if v2 < x1 then (
      zrd h (u0 + 5) v2 fun x2 =>
      zlet (wr (x2 - 3)) fun x3 =>
      zgf h u1 1 fun x4 =>
      if x3 < x4 then (
        zjn (fun (x50_2 : Int) (h : HF) => (
          zlet (wr (x50_2 + 1)) fun x5 =>
          LX4_fits_2 F u0 u1 k56 k48 k27 n x5 h
        )) fun j50 =>
        if x3 < 0 then (
          j50 v2 h
        ) else (
          zrd h (u1 + 1) x3 fun x6 =>
          zrd h (u0 + 6) v2 fun x7 =>
          if x6 = x7 then (
            j50 v2 h
          ) else (
            k48  h
          )
        )
      ) else (
        k27  h
      )
    ) else (
      k56  h
    )
set_option maxHeartbeats 4000000 in
set_option maxRecDepth 100000 in
theorem wX4_fits_2 {p : Program} {l : Launch} {e : Env} {s : State} {m : MethodId} {args : Array Value} {below : List Frame} {meth : Method} {c : Code} {Q : State → Prop} {g : zG} {B : Nat} {o : Int × HF} (F : Nat) (cx : Cx p s m args meth c cX4_fits 4 RX4 (some .boolean) g B) (u0 : Nat) (ru0 : kt u0 = 7) (u1 : Nat) (ru1 : kt u1 = 3) (k56 : HF → RO) (hk56 : ∀  (h : HF) (H : Heap) (locs : List Loc) (ls : Array Slot), Hp g B s h H locs → lv_has ls 4 [] → k56  h = some o → W p l e (rmn 0) s m args below meth c H locs 0 0 Q (F0 m 56 ls [])) (k48 : HF → RO) (hk48 : ∀  (h : HF) (H : Heap) (locs : List Loc) (ls : Array Slot), Hp g B s h H locs → lv_has ls 4 [] → k48  h = some o → W p l e (rmn 0) s m args below meth c H locs 0 0 Q (F0 m 48 ls [])) (k27 : HF → RO) (hk27 : ∀  (h : HF) (H : Heap) (locs : List Loc) (ls : Array Slot), Hp g B s h H locs → lv_has ls 4 [] → k27  h = some o → W p l e (rmn 0) s m args below meth c H locs 0 0 Q (F0 m 27 ls [])) : ∀ (n : Nat) (v2 : Int) (h : HF) (H : Heap) (locs : List Loc) (ls : Array Slot), rng v2 → Hp g B s h H locs → lv_has ls 4 [(0, .ref (B + u0)), (1, .ref (B + u1)), (2, .int (ii v2))] → LX4_fits_2 F u0 u1 k56 k48 k27 n v2 h = some o → W p l e (rmn 0) s m args below meth c H locs 0 0 Q (F0 m 2 ls []) := by
  intro n
  induction n with
  | zero =>
    intro v2 h H locs ls rv2 hp hl hf
    cases hf
  | succ n ih =>
    intro v2 h H locs ls rv2 hp hl hf
    rw [LX4_fits_2] at hf
    refine lv_iload_n cx.1 cx.2.1 dX4_fits_2 rfl (lv_at hl 2 rfl) ?_
    refine lv_aload_n cx.1 cx.2.1 dX4_fits_3 rfl (lv_at hl 0 rfl) ?_
    refine z_geti cx hp (T := TX4) 4 2 rfl zin_4 (by decide) (by decide) ru0 rfl fl_X4_40 dX4_fits_4 hf (fun x1 rx1 hf => ?_)
    refine z_icmp_ge cx rv2 rx1 (tgt := 56) dX4_fits_7 (by decide) hf (fun _ hf => ?_) (fun _ hf => ?_)
    · refine lv_aload_n cx.1 cx.2.1 dX4_fits_10 rfl (lv_at hl 0 rfl) ?_
      refine z_gets cx hp (T := TX4) 4 7 (u0 + 5) rfl zin_4 (by decide) (by decide) ru0 rfl fl_X4_24 dX4_fits_11 ?_
      refine lv_iload_n cx.1 cx.2.1 dX4_fits_14 rfl (lv_at hl 2 rfl) ?_
      refine z_iald cx hp (zs_4_7 u0 (kt_lt ru0 (by decide)) ru0) rv2 dX4_fits_15 hf (fun x2 rx2 hf => ?_)
      refine z_iconst cx dX4_fits_16 ?_
      refine z_isub cx dX4_fits_17 ?_
      refine z_let (rng_wr _) hf (fun x3 rx3 hf => ?_)
      refine lv_istore_n (lv' := [(3, .int (ii x3)), (0, .ref (B + u0)), (1, .ref (B + u1)), (2, .int (ii v2))]) cx.1 cx.2.1 dX4_fits_18 rfl hl (by decide) rfl (fun ls hl => ?_)
      refine lv_iload_n cx.1 cx.2.1 dX4_fits_19 rfl (lv_at hl 0 rfl) ?_
      refine lv_aload_n cx.1 cx.2.1 dX4_fits_20 rfl (lv_at hl 2 rfl) ?_
      refine z_geti cx hp (T := TX0) 0 1 rfl zin_0 (by decide) (by decide) ru1 rfl fl_X4_49 dX4_fits_21 hf (fun x4 rx4 hf => ?_)
      refine z_icmp_lt cx rx3 rx4 (tgt := 29) dX4_fits_24 (by decide) hf (fun _ hf => ?_) (fun _ hf => ?_)
      · refine lv_iload_n cx.1 cx.2.1 dX4_fits_29 rfl (lv_at hl 0 rfl) ?_
        refine z_jn hf (fun j => ∀ (x50_2 : Int) (h : HF) (H : Heap) (locs : List Loc) (ls : Array Slot), rng x50_2 → Hp g B s h H locs → lv_has ls 4 [(0, .ref (B + u0)), (1, .ref (B + u1)), (2, .int (ii x50_2))] → j x50_2 h = some o → W p l e (rmn 0) s m args below meth c H locs 0 0 Q (F0 m 50 ls [])) ?_ (fun j50 hj50 hf => ?_)
        · intro x50_2 h H locs ls rx50_2 hp hl hf
          refine z_iinc cx (fun x5 => [(2, .int (ii x5)), (0, .ref (B + u0)), (1, .ref (B + u1))]) dX4_fits_50 hl (k := 2) rfl (by decide) (fun _ => rfl) hf (fun x5 rx5 hf ls hl => ?_)
          refine lv_goto (tgt := 2) cx.1 cx.2.1 dX4_fits_53 (by decide) ?_
          exact ih x5 h _ _ ls rx5 hp (lv_sub hl [1, 2, 0] rfl) hf
        refine z_if_lt cx rx3 (tgt := 50) dX4_fits_30 (by decide) hf (fun _ hf => ?_) (fun _ hf => ?_)
        · exact hj50 v2 h _ _ ls rv2 hp (lv_sub hl [1, 2, 3] rfl) hf
        · refine lv_aload_n cx.1 cx.2.1 dX4_fits_33 rfl (lv_at hl 2 rfl) ?_
          refine z_gets cx hp (T := TX0) 0 3 (u1 + 1) rfl zin_0 (by decide) (by decide) ru1 rfl fl_X4_54 dX4_fits_34 ?_
          refine lv_iload_n cx.1 cx.2.1 dX4_fits_37 rfl (lv_at hl 0 rfl) ?_
          refine z_iald cx hp (zs_0_3 u1 (kt_lt ru1 (by decide)) ru1) rx3 dX4_fits_38 hf (fun x6 rx6 hf => ?_)
          refine lv_aload_n cx.1 cx.2.1 dX4_fits_39 rfl (lv_at hl 1 rfl) ?_
          refine z_gets cx hp (T := TX4) 4 8 (u0 + 6) rfl zin_4 (by decide) (by decide) ru0 rfl fl_X4_27 dX4_fits_40 ?_
          refine lv_iload_n cx.1 cx.2.1 dX4_fits_43 rfl (lv_at hl 3 rfl) ?_
          refine z_iald cx hp (zs_4_8 u0 (kt_lt ru0 (by decide)) ru0) rv2 dX4_fits_44 hf (fun x7 rx7 hf => ?_)
          refine z_icmp_eq cx rx6 rx7 (tgt := 50) dX4_fits_45 (by decide) hf (fun _ hf => ?_) (fun _ hf => ?_)
          · exact hj50 v2 h _ _ ls rv2 hp (lv_sub hl [1, 2, 3] rfl) hf
          · exact hk48  h _ _ ls  hp (lv_sub hl [] rfl) hf
      · exact hk27  h _ _ ls  hp (lv_sub hl [] rfl) hf
    · exact hk56  h _ _ ls  hp (lv_sub hl [] rfl) hf
def fX4_fits (F : Nat) (a0 : Nat) (a1 : Nat) (h : HF) : RO :=
  zjn (fun  (h : HF) => (
    zrz 1 h
  )) fun j56 =>
  zjn (fun  (h : HF) => (
    zrz 0 h
  )) fun j48 =>
  zjn (fun  (h : HF) => (
    zrz 0 h
  )) fun j27 =>
  LX4_fits_2 F a0 a1 j56 j48 j27 F 0 h
set_option maxHeartbeats 4000000 in
set_option maxRecDepth 100000 in
theorem mX4_fits (F : Nat) (l : Launch) (g : zG) (B : Nat) (h : HF) (a0 : Nat) (a1 : Nat) (ra0 : kt a0 = 7) (ra1 : kt a1 = 3) : CTi l g B yX4_fits cX4_fits 4 (some .boolean) 0 [.ref (B + a0), .ref (B + a1)] h (fX4_fits F a0 a1 h) := by
  refine z_enterI (by decide) rfl (Nat.le_of_ble_eq_true rfl) ?_
  intro p e s m args below meth c ls o Q cx hp hl hf hQ
  have hl : lv_has ls 4 [(0, .ref (B + a0)), (1, .ref (B + a1))] := hl
  unfold fX4_fits at hf
  refine z_iconst cx dX4_fits_0 ?_
  refine lv_istore_n (lv' := [(2, .int (ii 0)), (0, .ref (B + a0)), (1, .ref (B + a1))]) cx.1 cx.2.1 dX4_fits_1 rfl hl (by decide) rfl (fun ls hl => ?_)
  refine z_jn hf (fun j => ∀  (h : HF) (H : Heap) (locs : List Loc) (ls : Array Slot), Hp g B s h H locs → lv_has ls 4 [] → j  h = some o → W p l e (rmn 0) s m args below meth c H locs 0 0 Q (F0 m 56 ls [])) ?_ (fun j56 hj56 hf => ?_)
  · intro  h H locs ls  hp hl hf
    refine z_iconst cx dX4_fits_56 ?_
    rw [hQ]; exact z_zret cx hp dX4_fits_57 hf
  refine z_jn hf (fun j => ∀  (h : HF) (H : Heap) (locs : List Loc) (ls : Array Slot), Hp g B s h H locs → lv_has ls 4 [] → j  h = some o → W p l e (rmn 0) s m args below meth c H locs 0 0 Q (F0 m 48 ls [])) ?_ (fun j48 hj48 hf => ?_)
  · intro  h H locs ls  hp hl hf
    refine z_iconst cx dX4_fits_48 ?_
    rw [hQ]; exact z_zret cx hp dX4_fits_49 hf
  refine z_jn hf (fun j => ∀  (h : HF) (H : Heap) (locs : List Loc) (ls : Array Slot), Hp g B s h H locs → lv_has ls 4 [] → j  h = some o → W p l e (rmn 0) s m args below meth c H locs 0 0 Q (F0 m 27 ls [])) ?_ (fun j27 hj27 hf => ?_)
  · intro  h H locs ls  hp hl hf
    refine z_iconst cx dX4_fits_27 ?_
    rw [hQ]; exact z_zret cx hp dX4_fits_28 hf
  exact wX4_fits_2 F cx a0 ra0 a1 ra1 j56 hj56 j48 hj48 j27 hj27 F 0 h _ _ ls (by decide) hp (lv_sub hl [1, 2, 0] rfl) hf
theorem dX5_agrees_0 : decode cX5_agrees 0 = .ok (.aload_n 2, 1) := by decide +kernel
theorem dX5_agrees_1 : decode cX5_agrees 1 = .ok (.getfield 59, 3) := by decide +kernel
theorem dX5_agrees_4 : decode cX5_agrees 4 = .ok (.iload_n 3, 1) := by decide +kernel
theorem dX5_agrees_5 : decode cX5_agrees 5 = .ok (.iaload, 1) := by decide +kernel
theorem dX5_agrees_6 : decode cX5_agrees 6 = .ok (.istore 4, 2) := by decide +kernel
theorem dX5_agrees_8 : decode cX5_agrees 8 = .ok (.aload_n 2, 1) := by decide +kernel
theorem dX5_agrees_9 : decode cX5_agrees 9 = .ok (.getfield 59, 3) := by decide +kernel
theorem dX5_agrees_12 : decode cX5_agrees 12 = .ok (.iload_n 3, 1) := by decide +kernel
theorem dX5_agrees_13 : decode cX5_agrees 13 = .ok (.iconst 1, 1) := by decide +kernel
theorem dX5_agrees_14 : decode cX5_agrees 14 = .ok (.iadd, 1) := by decide +kernel
theorem dX5_agrees_15 : decode cX5_agrees 15 = .ok (.iaload, 1) := by decide +kernel
theorem dX5_agrees_16 : decode cX5_agrees 16 = .ok (.iconst 1, 1) := by decide +kernel
theorem dX5_agrees_17 : decode cX5_agrees 17 = .ok (.isub, 1) := by decide +kernel
theorem dX5_agrees_18 : decode cX5_agrees 18 = .ok (.istore 5, 2) := by decide +kernel
theorem dX5_agrees_20 : decode cX5_agrees 20 = .ok (.iload 5, 2) := by decide +kernel
theorem dX5_agrees_22 : decode cX5_agrees 22 = .ok (.iload 4, 2) := by decide +kernel
theorem dX5_agrees_24 : decode cX5_agrees 24 = .ok (.if_icmp .lt 136, 3) := by decide +kernel
theorem dX5_agrees_27 : decode cX5_agrees 27 = .ok (.aload_n 2, 1) := by decide +kernel
theorem dX5_agrees_28 : decode cX5_agrees 28 = .ok (.getfield 62, 3) := by decide +kernel
theorem dX5_agrees_31 : decode cX5_agrees 31 = .ok (.iload 5, 2) := by decide +kernel
theorem dX5_agrees_33 : decode cX5_agrees 33 = .ok (.iaload, 1) := by decide +kernel
theorem dX5_agrees_34 : decode cX5_agrees 34 = .ok (.istore 6, 2) := by decide +kernel
theorem dX5_agrees_36 : decode cX5_agrees 36 = .ok (.iload 6, 2) := by decide +kernel
theorem dX5_agrees_38 : decode cX5_agrees 38 = .ok (.iconst 3, 1) := by decide +kernel
theorem dX5_agrees_39 : decode cX5_agrees 39 = .ok (.if_icmp .ge 20, 3) := by decide +kernel
theorem dX5_agrees_42 : decode cX5_agrees 42 = .ok (.aload_n 0, 1) := by decide +kernel
theorem dX5_agrees_43 : decode cX5_agrees 43 = .ok (.getfield 15, 3) := by decide +kernel
theorem dX5_agrees_46 : decode cX5_agrees 46 = .ok (.iload 5, 2) := by decide +kernel
theorem dX5_agrees_48 : decode cX5_agrees 48 = .ok (.aload_n 0, 1) := by decide +kernel
theorem dX5_agrees_49 : decode cX5_agrees 49 = .ok (.getfield 9, 3) := by decide +kernel
theorem dX5_agrees_52 : decode cX5_agrees 52 = .ok (.iload 6, 2) := by decide +kernel
theorem dX5_agrees_54 : decode cX5_agrees 54 = .ok (.iaload, 1) := by decide +kernel
theorem dX5_agrees_55 : decode cX5_agrees 55 = .ok (.iastore, 1) := by decide +kernel
theorem dX5_agrees_56 : decode cX5_agrees 56 = .ok (.goto 98, 3) := by decide +kernel
theorem dX5_agrees_59 : decode cX5_agrees 59 = .ok (.aload_n 2, 1) := by decide +kernel
theorem dX5_agrees_60 : decode cX5_agrees 60 = .ok (.getfield 65, 3) := by decide +kernel
theorem dX5_agrees_63 : decode cX5_agrees 63 = .ok (.iload 5, 2) := by decide +kernel
theorem dX5_agrees_65 : decode cX5_agrees 65 = .ok (.iaload, 1) := by decide +kernel
theorem dX5_agrees_66 : decode cX5_agrees 66 = .ok (.ifCond .le 15, 3) := by decide +kernel
theorem dX5_agrees_69 : decode cX5_agrees 69 = .ok (.aload_n 0, 1) := by decide +kernel
theorem dX5_agrees_70 : decode cX5_agrees 70 = .ok (.getfield 15, 3) := by decide +kernel
theorem dX5_agrees_73 : decode cX5_agrees 73 = .ok (.iload 5, 2) := by decide +kernel
theorem dX5_agrees_75 : decode cX5_agrees 75 = .ok (.iconst 1, 1) := by decide +kernel
theorem dX5_agrees_76 : decode cX5_agrees 76 = .ok (.iadd, 1) := by decide +kernel
theorem dX5_agrees_77 : decode cX5_agrees 77 = .ok (.iaload, 1) := by decide +kernel
theorem dX5_agrees_78 : decode cX5_agrees 78 = .ok (.goto 4, 3) := by decide +kernel
theorem dX5_agrees_81 : decode cX5_agrees 81 = .ok (.iconst 0, 1) := by decide +kernel
theorem dX5_agrees_82 : decode cX5_agrees 82 = .ok (.istore 7, 2) := by decide +kernel
theorem dX5_agrees_84 : decode cX5_agrees 84 = .ok (.aload_n 2, 1) := by decide +kernel
theorem dX5_agrees_85 : decode cX5_agrees 85 = .ok (.getfield 65, 3) := by decide +kernel
theorem dX5_agrees_88 : decode cX5_agrees 88 = .ok (.iload 5, 2) := by decide +kernel
theorem dX5_agrees_90 : decode cX5_agrees 90 = .ok (.iaload, 1) := by decide +kernel
theorem dX5_agrees_91 : decode cX5_agrees 91 = .ok (.iconst 1, 1) := by decide +kernel
theorem dX5_agrees_92 : decode cX5_agrees 92 = .ok (.if_icmp .le 18, 3) := by decide +kernel
theorem dX5_agrees_95 : decode cX5_agrees 95 = .ok (.aload_n 0, 1) := by decide +kernel
theorem dX5_agrees_96 : decode cX5_agrees 96 = .ok (.getfield 15, 3) := by decide +kernel
theorem dX5_agrees_99 : decode cX5_agrees 99 = .ok (.aload_n 2, 1) := by decide +kernel
theorem dX5_agrees_100 : decode cX5_agrees 100 = .ok (.getfield 68, 3) := by decide +kernel
theorem dX5_agrees_103 : decode cX5_agrees 103 = .ok (.iload 5, 2) := by decide +kernel
theorem dX5_agrees_105 : decode cX5_agrees 105 = .ok (.iaload, 1) := by decide +kernel
theorem dX5_agrees_106 : decode cX5_agrees 106 = .ok (.iaload, 1) := by decide +kernel
theorem dX5_agrees_107 : decode cX5_agrees 107 = .ok (.goto 4, 3) := by decide +kernel
theorem dX5_agrees_110 : decode cX5_agrees 110 = .ok (.iconst 0, 1) := by decide +kernel
theorem dX5_agrees_111 : decode cX5_agrees 111 = .ok (.istore 8, 2) := by decide +kernel
theorem dX5_agrees_113 : decode cX5_agrees 113 = .ok (.aload_n 1, 1) := by decide +kernel
theorem dX5_agrees_114 : decode cX5_agrees 114 = .ok (.iload 6, 2) := by decide +kernel
theorem dX5_agrees_116 : decode cX5_agrees 116 = .ok (.iconst 3, 1) := by decide +kernel
theorem dX5_agrees_117 : decode cX5_agrees 117 = .ok (.isub, 1) := by decide +kernel
theorem dX5_agrees_118 : decode cX5_agrees 118 = .ok (.iload 7, 2) := by decide +kernel
theorem dX5_agrees_120 : decode cX5_agrees 120 = .ok (.iload 8, 2) := by decide +kernel
theorem dX5_agrees_122 : decode cX5_agrees 122 = .ok (.invokevirtual 71, 3) := by decide +kernel
theorem dX5_agrees_125 : decode cX5_agrees 125 = .ok (.istore 9, 2) := by decide +kernel
theorem dX5_agrees_127 : decode cX5_agrees 127 = .ok (.aload_n 0, 1) := by decide +kernel
theorem dX5_agrees_128 : decode cX5_agrees 128 = .ok (.aload_n 0, 1) := by decide +kernel
theorem dX5_agrees_129 : decode cX5_agrees 129 = .ok (.getfield 50, 3) := by decide +kernel
theorem dX5_agrees_132 : decode cX5_agrees 132 = .ok (.iload 9, 2) := by decide +kernel
theorem dX5_agrees_134 : decode cX5_agrees 134 = .ok (.invokestatic 75, 3) := by decide +kernel
theorem dX5_agrees_137 : decode cX5_agrees 137 = .ok (.putfield 50, 3) := by decide +kernel
theorem dX5_agrees_140 : decode cX5_agrees 140 = .ok (.aload_n 0, 1) := by decide +kernel
theorem dX5_agrees_141 : decode cX5_agrees 141 = .ok (.getfield 15, 3) := by decide +kernel
theorem dX5_agrees_144 : decode cX5_agrees 144 = .ok (.iload 5, 2) := by decide +kernel
theorem dX5_agrees_146 : decode cX5_agrees 146 = .ok (.aload_n 1, 1) := by decide +kernel
theorem dX5_agrees_147 : decode cX5_agrees 147 = .ok (.getfield 81, 3) := by decide +kernel
theorem dX5_agrees_150 : decode cX5_agrees 150 = .ok (.iload 9, 2) := by decide +kernel
theorem dX5_agrees_152 : decode cX5_agrees 152 = .ok (.iaload, 1) := by decide +kernel
theorem dX5_agrees_153 : decode cX5_agrees 153 = .ok (.iastore, 1) := by decide +kernel
theorem dX5_agrees_154 : decode cX5_agrees 154 = .ok (.iinc 5 (-1), 3) := by decide +kernel
theorem dX5_agrees_157 : decode cX5_agrees 157 = .ok (.goto (-137), 3) := by decide +kernel
theorem dX5_agrees_160 : decode cX5_agrees 160 = .ok (.aload_n 0, 1) := by decide +kernel
theorem dX5_agrees_161 : decode cX5_agrees 161 = .ok (.getfield 15, 3) := by decide +kernel
theorem dX5_agrees_164 : decode cX5_agrees 164 = .ok (.iload 4, 2) := by decide +kernel
theorem dX5_agrees_166 : decode cX5_agrees 166 = .ok (.iaload, 1) := by decide +kernel
theorem dX5_agrees_167 : decode cX5_agrees 167 = .ok (.aload_n 0, 1) := by decide +kernel
theorem dX5_agrees_168 : decode cX5_agrees 168 = .ok (.getfield 15, 3) := by decide +kernel
theorem dX5_agrees_171 : decode cX5_agrees 171 = .ok (.aload_n 2, 1) := by decide +kernel
theorem dX5_agrees_172 : decode cX5_agrees 172 = .ok (.getfield 84, 3) := by decide +kernel
theorem dX5_agrees_175 : decode cX5_agrees 175 = .ok (.iload_n 3, 1) := by decide +kernel
theorem dX5_agrees_176 : decode cX5_agrees 176 = .ok (.iaload, 1) := by decide +kernel
theorem dX5_agrees_177 : decode cX5_agrees 177 = .ok (.iaload, 1) := by decide +kernel
theorem dX5_agrees_178 : decode cX5_agrees 178 = .ok (.if_icmp .ne 7, 3) := by decide +kernel
theorem dX5_agrees_181 : decode cX5_agrees 181 = .ok (.iconst 1, 1) := by decide +kernel
theorem dX5_agrees_182 : decode cX5_agrees 182 = .ok (.goto 4, 3) := by decide +kernel
theorem dX5_agrees_185 : decode cX5_agrees 185 = .ok (.iconst 0, 1) := by decide +kernel
theorem dX5_agrees_186 : decode cX5_agrees 186 = .ok (.ireturn, 1) := by decide +kernel
def LX5_agrees_20 (F : Nat) (u0 : Nat) (u1 : Nat) (u2 : Nat) (u3 : Int) (u4 : Int) (k160 : Int → HF → RO) : Nat → Int → HF → RO
  | 0, _, _ => none
  | n + 1, v5, h =>
    if v5 < u4 then (
      k160 u4 h
    ) else (
      zrd h (u2 + 5) v5 fun x7 =>
      zjn (fun (x154_5 : Int) (h : HF) => (
        zlet (wr (x154_5 + (-1))) fun x8 =>
        LX5_agrees_20 F u0 u1 u2 u3 u4 k160 n x8 h
      )) fun j154 =>
      if x7 < 3 then (
        zrd h (u0 + 1) x7 fun x9 =>
        zwr h (u0 + 2) v5 x9 fun h =>
        j154 v5 h
      ) else (
        zrd h (u2 + 6) v5 fun x10 =>
        zjn (fun (x82_5 : Int) (x82_6 : Int) (y82_0 : Int) (h : HF) => (
          zrd h (u2 + 6) x82_5 fun x11 =>
          zjn (fun (x111_5 : Int) (x111_6 : Int) (x111_7 : Int) (y111_0 : Int) (h : HF) => (
            zbd (fX0_spot F u1 (wr (x111_6 - 3)) x111_7 y111_0 h) fun r12 h =>
            zgf h u0 2 fun x13 =>
            zpf h u0 2 (zmax x13 r12) fun h =>
            zrd h (u1 + 3) r12 fun x14 =>
            zwr h (u0 + 2) x111_5 x14 fun h =>
            j154 x111_5 h
          )) fun j111 =>
          if 1 < x11 then (
            zrd h (u2 + 7) x82_5 fun x15 =>
            zrd h (u0 + 2) x15 fun x16 =>
            j111 x82_5 x82_6 y82_0 x16 h
          ) else (
            j111 x82_5 x82_6 y82_0 0 h
          )
        )) fun j82 =>
        if 0 < x10 then (
          zrd h (u0 + 2) (wr (v5 + 1)) fun x17 =>
          j82 v5 x7 x17 h
        ) else (
          j82 v5 x7 0 h
        )
      )
    )
set_option maxHeartbeats 4000000 in
set_option maxRecDepth 100000 in
theorem wX5_agrees_20 {p : Program} {l : Launch} {e : Env} {s : State} {m : MethodId} {args : Array Value} {below : List Frame} {meth : Method} {c : Code} {Q : State → Prop} {g : zG} {B : Nat} {o : Int × HF} (F : Nat) (cx : Cx p s m args meth c cX5_agrees 10 RX5 (some .boolean) g B) (u0 : Nat) (ru0 : kt u0 = 8) (u1 : Nat) (ru1 : kt u1 = 3) (u2 : Nat) (ru2 : kt u2 = 7) (u3 : Int) (ru3 : rng u3) (u4 : Int) (ru4 : rng u4) (k160 : Int → HF → RO) (hk160 : ∀ (x4 : Int) (h : HF) (H : Heap) (locs : List Loc) (ls : Array Slot), rng x4 → Hp g B s h H locs → lv_has ls 10 [(0, .ref (B + u0)), (2, .ref (B + u2)), (3, .int (ii u3)), (4, .int (ii x4))] → k160 x4 h = some o → W p l e (rmn 1) s m args below meth c H locs 0 0 Q (F0 m 160 ls [])) : ∀ (n : Nat) (v5 : Int) (h : HF) (H : Heap) (locs : List Loc) (ls : Array Slot), rng v5 → Hp g B s h H locs → lv_has ls 10 [(0, .ref (B + u0)), (1, .ref (B + u1)), (2, .ref (B + u2)), (3, .int (ii u3)), (4, .int (ii u4)), (5, .int (ii v5))] → LX5_agrees_20 F u0 u1 u2 u3 u4 k160 n v5 h = some o → W p l e (rmn 1) s m args below meth c H locs 0 0 Q (F0 m 20 ls []) := by
  intro n
  induction n with
  | zero =>
    intro v5 h H locs ls rv5 hp hl hf
    cases hf
  | succ n ih =>
    intro v5 h H locs ls rv5 hp hl hf
    rw [LX5_agrees_20] at hf
    refine lv_iload cx.1 cx.2.1 dX5_agrees_20 (lv_at hl 5 rfl) ?_
    refine lv_iload cx.1 cx.2.1 dX5_agrees_22 (lv_at hl 4 rfl) ?_
    refine z_icmp_lt cx rv5 ru4 (tgt := 160) dX5_agrees_24 (by decide) hf (fun _ hf => ?_) (fun _ hf => ?_)
    · exact hk160 u4 h _ _ ls ru4 hp (lv_sub hl [0, 2, 3, 4] rfl) hf
    · refine lv_aload_n cx.1 cx.2.1 dX5_agrees_27 rfl (lv_at hl 2 rfl) ?_
      refine z_gets cx hp (T := TX4) 4 7 (u2 + 5) rfl zin_4 (by decide) (by decide) ru2 rfl fl_X5_62 dX5_agrees_28 ?_
      refine lv_iload cx.1 cx.2.1 dX5_agrees_31 (lv_at hl 5 rfl) ?_
      refine z_iald cx hp (zs_4_7 u2 (kt_lt ru2 (by decide)) ru2) rv5 dX5_agrees_33 hf (fun x7 rx7 hf => ?_)
      refine lv_istore (lv' := [(6, .int (ii x7)), (0, .ref (B + u0)), (1, .ref (B + u1)), (2, .ref (B + u2)), (3, .int (ii u3)), (4, .int (ii u4)), (5, .int (ii v5))]) cx.1 cx.2.1 dX5_agrees_34 hl (by decide) rfl (fun ls hl => ?_)
      refine lv_iload cx.1 cx.2.1 dX5_agrees_36 (lv_at hl 0 rfl) ?_
      refine z_iconst cx dX5_agrees_38 ?_
      refine z_jn hf (fun j => ∀ (x154_5 : Int) (h : HF) (H : Heap) (locs : List Loc) (ls : Array Slot), rng x154_5 → Hp g B s h H locs → lv_has ls 10 [(0, .ref (B + u0)), (1, .ref (B + u1)), (2, .ref (B + u2)), (3, .int (ii u3)), (4, .int (ii u4)), (5, .int (ii x154_5))] → j x154_5 h = some o → W p l e (rmn 1) s m args below meth c H locs 0 0 Q (F0 m 154 ls [])) ?_ (fun j154 hj154 hf => ?_)
      · intro x154_5 h H locs ls rx154_5 hp hl hf
        refine z_iinc cx (fun x8 => [(5, .int (ii x8)), (0, .ref (B + u0)), (1, .ref (B + u1)), (2, .ref (B + u2)), (3, .int (ii u3)), (4, .int (ii u4))]) dX5_agrees_154 hl (k := 5) rfl (by decide) (fun _ => rfl) hf (fun x8 rx8 hf ls hl => ?_)
        refine lv_goto (tgt := 20) cx.1 cx.2.1 dX5_agrees_157 (by decide) ?_
        exact ih x8 h _ _ ls rx8 hp (lv_sub hl [1, 2, 3, 4, 5, 0] rfl) hf
      refine z_icmp_ge cx rx7 (by decide) (tgt := 59) dX5_agrees_39 (by decide) hf (fun _ hf => ?_) (fun _ hf => ?_)
      · refine lv_aload_n cx.1 cx.2.1 dX5_agrees_42 rfl (lv_at hl 1 rfl) ?_
        refine z_gets cx hp (T := TX5) 5 4 (u0 + 2) rfl zin_5 (by decide) (by decide) ru0 rfl fl_X5_15 dX5_agrees_43 ?_
        refine lv_iload cx.1 cx.2.1 dX5_agrees_46 (lv_at hl 6 rfl) ?_
        refine lv_aload_n cx.1 cx.2.1 dX5_agrees_48 rfl (lv_at hl 1 rfl) ?_
        refine z_gets cx hp (T := TX5) 5 3 (u0 + 1) rfl zin_5 (by decide) (by decide) ru0 rfl fl_X5_9 dX5_agrees_49 ?_
        refine lv_iload cx.1 cx.2.1 dX5_agrees_52 (lv_at hl 0 rfl) ?_
        refine z_iald cx hp (zs_5_3 u0 (kt_lt ru0 (by decide)) ru0) rx7 dX5_agrees_54 hf (fun x9 rx9 hf => ?_)
        refine z_iast cx hp (zs_5_4 u0 (kt_lt ru0 (by decide)) ru0) rv5 rx9 dX5_agrees_55 hf (fun h H locs hp hf => ?_)
        refine lv_goto (tgt := 154) cx.1 cx.2.1 dX5_agrees_56 (by decide) ?_
        exact hj154 v5 h _ _ ls rv5 hp (lv_sub hl [1, 2, 3, 4, 5, 6] rfl) hf
      · refine lv_aload_n cx.1 cx.2.1 dX5_agrees_59 rfl (lv_at hl 3 rfl) ?_
        refine z_gets cx hp (T := TX4) 4 8 (u2 + 6) rfl zin_4 (by decide) (by decide) ru2 rfl fl_X5_65 dX5_agrees_60 ?_
        refine lv_iload cx.1 cx.2.1 dX5_agrees_63 (lv_at hl 6 rfl) ?_
        refine z_iald cx hp (zs_4_8 u2 (kt_lt ru2 (by decide)) ru2) rv5 dX5_agrees_65 hf (fun x10 rx10 hf => ?_)
        refine z_jn hf (fun j => ∀ (x82_5 : Int) (x82_6 : Int) (y82_0 : Int) (h : HF) (H : Heap) (locs : List Loc) (ls : Array Slot), rng x82_5 → rng x82_6 → rng y82_0 → Hp g B s h H locs → lv_has ls 10 [(0, .ref (B + u0)), (1, .ref (B + u1)), (2, .ref (B + u2)), (3, .int (ii u3)), (4, .int (ii u4)), (5, .int (ii x82_5)), (6, .int (ii x82_6))] → j x82_5 x82_6 y82_0 h = some o → W p l e (rmn 1) s m args below meth c H locs 0 0 Q (F0 m 82 ls [.int (ii y82_0)])) ?_ (fun j82 hj82 hf => ?_)
        · intro x82_5 x82_6 y82_0 h H locs ls rx82_5 rx82_6 ry82_0 hp hl hf
          refine lv_istore (lv' := [(7, .int (ii y82_0)), (0, .ref (B + u0)), (1, .ref (B + u1)), (2, .ref (B + u2)), (3, .int (ii u3)), (4, .int (ii u4)), (5, .int (ii x82_5)), (6, .int (ii x82_6))]) cx.1 cx.2.1 dX5_agrees_82 hl (by decide) rfl (fun ls hl => ?_)
          refine lv_aload_n cx.1 cx.2.1 dX5_agrees_84 rfl (lv_at hl 3 rfl) ?_
          refine z_gets cx hp (T := TX4) 4 8 (u2 + 6) rfl zin_4 (by decide) (by decide) ru2 rfl fl_X5_65 dX5_agrees_85 ?_
          refine lv_iload cx.1 cx.2.1 dX5_agrees_88 (lv_at hl 6 rfl) ?_
          refine z_iald cx hp (zs_4_8 u2 (kt_lt ru2 (by decide)) ru2) rx82_5 dX5_agrees_90 hf (fun x11 rx11 hf => ?_)
          refine z_iconst cx dX5_agrees_91 ?_
          refine z_jn hf (fun j => ∀ (x111_5 : Int) (x111_6 : Int) (x111_7 : Int) (y111_0 : Int) (h : HF) (H : Heap) (locs : List Loc) (ls : Array Slot), rng x111_5 → rng x111_6 → rng x111_7 → rng y111_0 → Hp g B s h H locs → lv_has ls 10 [(0, .ref (B + u0)), (1, .ref (B + u1)), (2, .ref (B + u2)), (3, .int (ii u3)), (4, .int (ii u4)), (5, .int (ii x111_5)), (6, .int (ii x111_6)), (7, .int (ii x111_7))] → j x111_5 x111_6 x111_7 y111_0 h = some o → W p l e (rmn 1) s m args below meth c H locs 0 0 Q (F0 m 111 ls [.int (ii y111_0)])) ?_ (fun j111 hj111 hf => ?_)
          · intro x111_5 x111_6 x111_7 y111_0 h H locs ls rx111_5 rx111_6 rx111_7 ry111_0 hp hl hf
            refine lv_istore (lv' := [(8, .int (ii y111_0)), (0, .ref (B + u0)), (1, .ref (B + u1)), (2, .ref (B + u2)), (3, .int (ii u3)), (4, .int (ii u4)), (5, .int (ii x111_5)), (6, .int (ii x111_6)), (7, .int (ii x111_7))]) cx.1 cx.2.1 dX5_agrees_111 hl (by decide) rfl (fun ls hl => ?_)
            refine lv_aload_n cx.1 cx.2.1 dX5_agrees_113 rfl (lv_at hl 2 rfl) ?_
            refine lv_iload cx.1 cx.2.1 dX5_agrees_114 (lv_at hl 7 rfl) ?_
            refine z_iconst cx dX5_agrees_116 ?_
            refine z_isub cx dX5_agrees_117 ?_
            refine lv_iload cx.1 cx.2.1 dX5_agrees_118 (lv_at hl 8 rfl) ?_
            refine lv_iload cx.1 cx.2.1 dX5_agrees_120 (lv_at hl 0 rfl) ?_
            refine z_ci cx hp (fun o' hx => zrunV (n := 1) (As := [.int (ii (wr (x111_6 - 3))), .int (ii x111_7), .int (ii y111_0)]) (rest := []) cx hp (mX0_spot F l g B h u1 (wr (x111_6 - 3)) x111_7 y111_0 ru1 (rng_wr _) rx111_7 ry111_0 o' hx) 0 ru1 (by decide) rfl vw_X0_spot ml_X5_71 (by decide) rfl hl.1 rfl (Nat.le_of_ble_eq_true rfl) dX5_agrees_122) hf (fun r12 h H locs rr12 hp hf => ?_)
            refine lv_istore (lv' := [(9, .int (ii r12)), (8, .int (ii y111_0)), (0, .ref (B + u0)), (1, .ref (B + u1)), (2, .ref (B + u2)), (3, .int (ii u3)), (4, .int (ii u4)), (5, .int (ii x111_5)), (6, .int (ii x111_6)), (7, .int (ii x111_7))]) cx.1 cx.2.1 dX5_agrees_125 hl (by decide) rfl (fun ls hl => ?_)
            refine lv_aload_n cx.1 cx.2.1 dX5_agrees_127 rfl (lv_at hl 2 rfl) ?_
            refine lv_aload_n cx.1 cx.2.1 dX5_agrees_128 rfl (lv_at hl 2 rfl) ?_
            refine z_geti cx hp (T := TX5) 5 2 rfl zin_5 (by decide) (by decide) ru0 rfl fl_X5_50 dX5_agrees_129 hf (fun x13 rx13 hf => ?_)
            refine lv_iload cx.1 cx.2.1 dX5_agrees_132 (lv_at hl 0 rfl) ?_
            refine z_mmax cx (n := 1) rx13 rr12 hl.1 (Nat.le_of_ble_eq_true rfl) mx_X5_75 (by decide) dX5_agrees_134 ?_
            refine z_puti cx hp (T := TX5) tyX5 tyX5_ok nmX5 5 2 (rng_max rx13 rr12) rfl zin_5 (by decide) (by decide) ru0 rfl rfl rfl fl_X5_50 dX5_agrees_137 hf (fun h H locs hp hf => ?_)
            refine lv_aload_n cx.1 cx.2.1 dX5_agrees_140 rfl (lv_at hl 2 rfl) ?_
            refine z_gets cx hp (T := TX5) 5 4 (u0 + 2) rfl zin_5 (by decide) (by decide) ru0 rfl fl_X5_15 dX5_agrees_141 ?_
            refine lv_iload cx.1 cx.2.1 dX5_agrees_144 (lv_at hl 7 rfl) ?_
            refine lv_aload_n cx.1 cx.2.1 dX5_agrees_146 rfl (lv_at hl 3 rfl) ?_
            refine z_gets cx hp (T := TX0) 0 5 (u1 + 3) rfl zin_0 (by decide) (by decide) ru1 rfl fl_X5_81 dX5_agrees_147 ?_
            refine lv_iload cx.1 cx.2.1 dX5_agrees_150 (lv_at hl 0 rfl) ?_
            refine z_iald cx hp (zs_0_5 u1 (kt_lt ru1 (by decide)) ru1) rr12 dX5_agrees_152 hf (fun x14 rx14 hf => ?_)
            refine z_iast cx hp (zs_5_4 u0 (kt_lt ru0 (by decide)) ru0) rx111_5 rx14 dX5_agrees_153 hf (fun h H locs hp hf => ?_)
            exact hj154 x111_5 h _ _ ls rx111_5 hp (lv_sub hl [2, 3, 4, 5, 6, 7] rfl) hf
          refine z_icmp_le cx rx11 (by decide) (tgt := 110) dX5_agrees_92 (by decide) hf (fun _ hf => ?_) (fun _ hf => ?_)
          · refine lv_aload_n cx.1 cx.2.1 dX5_agrees_95 rfl (lv_at hl 1 rfl) ?_
            refine z_gets cx hp (T := TX5) 5 4 (u0 + 2) rfl zin_5 (by decide) (by decide) ru0 rfl fl_X5_15 dX5_agrees_96 ?_
            refine lv_aload_n cx.1 cx.2.1 dX5_agrees_99 rfl (lv_at hl 3 rfl) ?_
            refine z_gets cx hp (T := TX4) 4 9 (u2 + 7) rfl zin_4 (by decide) (by decide) ru2 rfl fl_X5_68 dX5_agrees_100 ?_
            refine lv_iload cx.1 cx.2.1 dX5_agrees_103 (lv_at hl 6 rfl) ?_
            refine z_iald cx hp (zs_4_9 u2 (kt_lt ru2 (by decide)) ru2) rx82_5 dX5_agrees_105 hf (fun x15 rx15 hf => ?_)
            refine z_iald cx hp (zs_5_4 u0 (kt_lt ru0 (by decide)) ru0) rx15 dX5_agrees_106 hf (fun x16 rx16 hf => ?_)
            refine lv_goto (tgt := 111) cx.1 cx.2.1 dX5_agrees_107 (by decide) ?_
            exact hj111 x82_5 x82_6 y82_0 x16 h _ _ ls rx82_5 rx82_6 ry82_0 rx16 hp (lv_sub hl [1, 2, 3, 4, 5, 6, 7, 0] rfl) hf
          · refine z_iconst cx dX5_agrees_110 ?_
            exact hj111 x82_5 x82_6 y82_0 0 h _ _ ls rx82_5 rx82_6 ry82_0 (by decide) hp (lv_sub hl [1, 2, 3, 4, 5, 6, 7, 0] rfl) hf
        refine z_if_le cx rx10 (tgt := 81) dX5_agrees_66 (by decide) hf (fun _ hf => ?_) (fun _ hf => ?_)
        · refine lv_aload_n cx.1 cx.2.1 dX5_agrees_69 rfl (lv_at hl 1 rfl) ?_
          refine z_gets cx hp (T := TX5) 5 4 (u0 + 2) rfl zin_5 (by decide) (by decide) ru0 rfl fl_X5_15 dX5_agrees_70 ?_
          refine lv_iload cx.1 cx.2.1 dX5_agrees_73 (lv_at hl 6 rfl) ?_
          refine z_iconst cx dX5_agrees_75 ?_
          refine z_iadd cx dX5_agrees_76 ?_
          refine z_iald cx hp (zs_5_4 u0 (kt_lt ru0 (by decide)) ru0) (rng_wr _) dX5_agrees_77 hf (fun x17 rx17 hf => ?_)
          refine lv_goto (tgt := 82) cx.1 cx.2.1 dX5_agrees_78 (by decide) ?_
          exact hj82 v5 x7 x17 h _ _ ls rv5 rx7 rx17 hp (lv_sub hl [1, 2, 3, 4, 5, 6, 0] rfl) hf
        · refine z_iconst cx dX5_agrees_81 ?_
          exact hj82 v5 x7 0 h _ _ ls rv5 rx7 (by decide) hp (lv_sub hl [1, 2, 3, 4, 5, 6, 0] rfl) hf
def fX5_agrees (F : Nat) (a0 : Nat) (a1 : Nat) (a2 : Nat) (a3 : Int) (h : HF) : RO :=
  zrd h (a2 + 3) a3 fun x1 =>
  zrd h (a2 + 3) (wr (a3 + 1)) fun x2 =>
  zlet (wr (x2 - 1)) fun x3 =>
  zjn (fun (x160_4 : Int) (h : HF) => (
    zrd h (a0 + 2) x160_4 fun x4 =>
    zrd h (a2 + 4) a3 fun x5 =>
    zrd h (a0 + 2) x5 fun x6 =>
    zjn (fun (y186_0 : Int) (h : HF) => (
      zrz y186_0 h
    )) fun j186 =>
    if x4 = x6 then (
      j186 1 h
    ) else (
      j186 0 h
    )
  )) fun j160 =>
  LX5_agrees_20 F a0 a1 a2 a3 x1 j160 F x3 h
set_option maxHeartbeats 4000000 in
set_option maxRecDepth 100000 in
theorem mX5_agrees (F : Nat) (l : Launch) (g : zG) (B : Nat) (h : HF) (a0 : Nat) (a1 : Nat) (a2 : Nat) (a3 : Int) (ra0 : kt a0 = 8) (ra1 : kt a1 = 3) (ra2 : kt a2 = 7) (ra3 : rng a3) : CTi l g B yX5_agrees cX5_agrees 10 (some .boolean) 1 [.ref (B + a0), .ref (B + a1), .ref (B + a2), .int (ii a3)] h (fX5_agrees F a0 a1 a2 a3 h) := by
  refine z_enterI (by decide) rfl (Nat.le_of_ble_eq_true rfl) ?_
  intro p e s m args below meth c ls o Q cx hp hl hf hQ
  have hl : lv_has ls 10 [(0, .ref (B + a0)), (1, .ref (B + a1)), (2, .ref (B + a2)), (3, .int (ii a3))] := hl
  unfold fX5_agrees at hf
  refine lv_aload_n cx.1 cx.2.1 dX5_agrees_0 rfl (lv_at hl 2 rfl) ?_
  refine z_gets cx hp (T := TX4) 4 5 (a2 + 3) rfl zin_4 (by decide) (by decide) ra2 rfl fl_X5_59 dX5_agrees_1 ?_
  refine lv_iload_n cx.1 cx.2.1 dX5_agrees_4 rfl (lv_at hl 3 rfl) ?_
  refine z_iald cx hp (zs_4_5 a2 (kt_lt ra2 (by decide)) ra2) ra3 dX5_agrees_5 hf (fun x1 rx1 hf => ?_)
  refine lv_istore (lv' := [(4, .int (ii x1)), (0, .ref (B + a0)), (1, .ref (B + a1)), (2, .ref (B + a2)), (3, .int (ii a3))]) cx.1 cx.2.1 dX5_agrees_6 hl (by decide) rfl (fun ls hl => ?_)
  refine lv_aload_n cx.1 cx.2.1 dX5_agrees_8 rfl (lv_at hl 3 rfl) ?_
  refine z_gets cx hp (T := TX4) 4 5 (a2 + 3) rfl zin_4 (by decide) (by decide) ra2 rfl fl_X5_59 dX5_agrees_9 ?_
  refine lv_iload_n cx.1 cx.2.1 dX5_agrees_12 rfl (lv_at hl 4 rfl) ?_
  refine z_iconst cx dX5_agrees_13 ?_
  refine z_iadd cx dX5_agrees_14 ?_
  refine z_iald cx hp (zs_4_5 a2 (kt_lt ra2 (by decide)) ra2) (rng_wr _) dX5_agrees_15 hf (fun x2 rx2 hf => ?_)
  refine z_iconst cx dX5_agrees_16 ?_
  refine z_isub cx dX5_agrees_17 ?_
  refine z_let (rng_wr _) hf (fun x3 rx3 hf => ?_)
  refine lv_istore (lv' := [(5, .int (ii x3)), (4, .int (ii x1)), (0, .ref (B + a0)), (1, .ref (B + a1)), (2, .ref (B + a2)), (3, .int (ii a3))]) cx.1 cx.2.1 dX5_agrees_18 hl (by decide) rfl (fun ls hl => ?_)
  refine z_jn hf (fun j => ∀ (x160_4 : Int) (h : HF) (H : Heap) (locs : List Loc) (ls : Array Slot), rng x160_4 → Hp g B s h H locs → lv_has ls 10 [(0, .ref (B + a0)), (2, .ref (B + a2)), (3, .int (ii a3)), (4, .int (ii x160_4))] → j x160_4 h = some o → W p l e (rmn 1) s m args below meth c H locs 0 0 Q (F0 m 160 ls [])) ?_ (fun j160 hj160 hf => ?_)
  · intro x160_4 h H locs ls rx160_4 hp hl hf
    refine lv_aload_n cx.1 cx.2.1 dX5_agrees_160 rfl (lv_at hl 0 rfl) ?_
    refine z_gets cx hp (T := TX5) 5 4 (a0 + 2) rfl zin_5 (by decide) (by decide) ra0 rfl fl_X5_15 dX5_agrees_161 ?_
    refine lv_iload cx.1 cx.2.1 dX5_agrees_164 (lv_at hl 3 rfl) ?_
    refine z_iald cx hp (zs_5_4 a0 (kt_lt ra0 (by decide)) ra0) rx160_4 dX5_agrees_166 hf (fun x4 rx4 hf => ?_)
    refine lv_aload_n cx.1 cx.2.1 dX5_agrees_167 rfl (lv_at hl 0 rfl) ?_
    refine z_gets cx hp (T := TX5) 5 4 (a0 + 2) rfl zin_5 (by decide) (by decide) ra0 rfl fl_X5_15 dX5_agrees_168 ?_
    refine lv_aload_n cx.1 cx.2.1 dX5_agrees_171 rfl (lv_at hl 1 rfl) ?_
    refine z_gets cx hp (T := TX4) 4 6 (a2 + 4) rfl zin_4 (by decide) (by decide) ra2 rfl fl_X5_84 dX5_agrees_172 ?_
    refine lv_iload_n cx.1 cx.2.1 dX5_agrees_175 rfl (lv_at hl 2 rfl) ?_
    refine z_iald cx hp (zs_4_6 a2 (kt_lt ra2 (by decide)) ra2) ra3 dX5_agrees_176 hf (fun x5 rx5 hf => ?_)
    refine z_iald cx hp (zs_5_4 a0 (kt_lt ra0 (by decide)) ra0) rx5 dX5_agrees_177 hf (fun x6 rx6 hf => ?_)
    refine z_jn hf (fun j => ∀ (y186_0 : Int) (h : HF) (H : Heap) (locs : List Loc) (ls : Array Slot), rng y186_0 → Hp g B s h H locs → lv_has ls 10 [] → j y186_0 h = some o → W p l e (rmn 1) s m args below meth c H locs 0 0 Q (F0 m 186 ls [.int (ii y186_0)])) ?_ (fun j186 hj186 hf => ?_)
    · intro y186_0 h H locs ls ry186_0 hp hl hf
      rw [hQ]; exact z_zret cx hp dX5_agrees_186 hf
    refine z_icmp_ne cx rx4 rx6 (tgt := 185) dX5_agrees_178 (by decide) hf (fun _ hf => ?_) (fun _ hf => ?_)
    · refine z_iconst cx dX5_agrees_181 ?_
      refine lv_goto (tgt := 186) cx.1 cx.2.1 dX5_agrees_182 (by decide) ?_
      exact hj186 1 h _ _ ls (by decide) hp (lv_sub hl [] rfl) hf
    · refine z_iconst cx dX5_agrees_185 ?_
      exact hj186 0 h _ _ ls (by decide) hp (lv_sub hl [] rfl) hf
  exact wX5_agrees_20 F cx a0 ra0 a1 ra1 a2 ra2 a3 ra3 x1 rx1 j160 hj160 F x3 h _ _ ls rx3 hp (lv_sub hl [2, 3, 4, 5, 1, 0] rfl) hf
theorem dX6_keepBest_0 : decode cX6_keepBest 0 = .ok (.aload_n 0, 1) := by decide +kernel
theorem dX6_keepBest_1 : decode cX6_keepBest 1 = .ok (.getfield 18, 3) := by decide +kernel
theorem dX6_keepBest_4 : decode cX6_keepBest 4 = .ok (.iconst 0, 1) := by decide +kernel
theorem dX6_keepBest_5 : decode cX6_keepBest 5 = .ok (.aload_n 0, 1) := by decide +kernel
theorem dX6_keepBest_6 : decode cX6_keepBest 6 = .ok (.getfield 9, 3) := by decide +kernel
theorem dX6_keepBest_9 : decode cX6_keepBest 9 = .ok (.iconst 0, 1) := by decide +kernel
theorem dX6_keepBest_10 : decode cX6_keepBest 10 = .ok (.bipush 7, 2) := by decide +kernel
theorem dX6_keepBest_12 : decode cX6_keepBest 12 = .ok (.invokestatic 44, 3) := by decide +kernel
theorem dX6_keepBest_15 : decode cX6_keepBest 15 = .ok (.aload_n 0, 1) := by decide +kernel
theorem dX6_keepBest_16 : decode cX6_keepBest 16 = .ok (.getfield 21, 3) := by decide +kernel
theorem dX6_keepBest_19 : decode cX6_keepBest 19 = .ok (.iconst 0, 1) := by decide +kernel
theorem dX6_keepBest_20 : decode cX6_keepBest 20 = .ok (.aload_n 0, 1) := by decide +kernel
theorem dX6_keepBest_21 : decode cX6_keepBest 21 = .ok (.getfield 15, 3) := by decide +kernel
theorem dX6_keepBest_24 : decode cX6_keepBest 24 = .ok (.iconst 0, 1) := by decide +kernel
theorem dX6_keepBest_25 : decode cX6_keepBest 25 = .ok (.bipush 7, 2) := by decide +kernel
theorem dX6_keepBest_27 : decode cX6_keepBest 27 = .ok (.invokestatic 44, 3) := by decide +kernel
theorem dX6_keepBest_30 : decode cX6_keepBest 30 = .ok (.return_, 1) := by decide +kernel
def fX6_keepBest (F : Nat) (a0 : Nat) (h : HF) : RO :=
  zcp h (a0 + 3) 0 (a0 + 1) 0 7 fun h =>
  zcp h (a0 + 4) 0 (a0 + 2) 0 7 fun h =>
  some (0, h)
set_option maxHeartbeats 4000000 in
set_option maxRecDepth 100000 in
theorem mX6_keepBest (F : Nat) (l : Launch) (g : zG) (B : Nat) (h : HF) (a0 : Nat) (ra0 : kt a0 = 9) : CTv l g B yX6_keepBest cX6_keepBest 1 1 [.ref (B + a0)] h (fX6_keepBest F a0 h) := by
  refine z_enterV (by decide) rfl (Nat.le_of_ble_eq_true rfl) ?_
  intro p e s m args below meth c ls o Q cx hp hl hf hQ
  have hl : lv_has ls 1 [(0, .ref (B + a0))] := hl
  unfold fX6_keepBest at hf
  refine lv_aload_n cx.1 cx.2.1 dX6_keepBest_0 rfl (lv_at hl 0 rfl) ?_
  refine z_gets cx hp (T := TX6) 6 4 (a0 + 3) rfl zin_6 (by decide) (by decide) ra0 rfl fl_X6_18 dX6_keepBest_1 ?_
  refine z_iconst cx dX6_keepBest_4 ?_
  refine lv_aload_n cx.1 cx.2.1 dX6_keepBest_5 rfl (lv_at hl 0 rfl) ?_
  refine z_gets cx hp (T := TX6) 6 0 (a0 + 1) rfl zin_6 (by decide) (by decide) ra0 rfl fl_X6_9 dX6_keepBest_6 ?_
  refine z_iconst cx dX6_keepBest_9 ?_
  refine z_bipush cx (by decide) dX6_keepBest_10 ?_
  refine z_acopy cx hp (n := 1) (zs_6_4 a0 (kt_lt ra0 (by decide)) ra0) (by decide) (zs_6_0 a0 (kt_lt ra0 (by decide)) ra0) (by decide) (by decide) hl.1 (Nat.le_of_ble_eq_true rfl) ma_X6_44 (by decide) dX6_keepBest_12 hf (fun h H locs hp hf => ?_)
  refine lv_aload_n cx.1 cx.2.1 dX6_keepBest_15 rfl (lv_at hl 0 rfl) ?_
  refine z_gets cx hp (T := TX6) 6 5 (a0 + 4) rfl zin_6 (by decide) (by decide) ra0 rfl fl_X6_21 dX6_keepBest_16 ?_
  refine z_iconst cx dX6_keepBest_19 ?_
  refine lv_aload_n cx.1 cx.2.1 dX6_keepBest_20 rfl (lv_at hl 0 rfl) ?_
  refine z_gets cx hp (T := TX6) 6 1 (a0 + 2) rfl zin_6 (by decide) (by decide) ra0 rfl fl_X6_15 dX6_keepBest_21 ?_
  refine z_iconst cx dX6_keepBest_24 ?_
  refine z_bipush cx (by decide) dX6_keepBest_25 ?_
  refine z_acopy cx hp (n := 1) (zs_6_5 a0 (kt_lt ra0 (by decide)) ra0) (by decide) (zs_6_1 a0 (kt_lt ra0 (by decide)) ra0) (by decide) (by decide) hl.1 (Nat.le_of_ble_eq_true rfl) ma_X6_44 (by decide) dX6_keepBest_27 hf (fun h H locs hp hf => ?_)
  rw [hQ]; exact z_vret cx hp dX6_keepBest_30 hf
theorem dX6_compareWithBest_0 : decode cX6_compareWithBest 0 = .ok (.aload_n 0, 1) := by decide +kernel
theorem dX6_compareWithBest_1 : decode cX6_compareWithBest 1 = .ok (.iconst (-1), 1) := by decide +kernel
theorem dX6_compareWithBest_2 : decode cX6_compareWithBest 2 = .ok (.putfield 50, 3) := by decide +kernel
theorem dX6_compareWithBest_5 : decode cX6_compareWithBest 5 = .ok (.iconst 0, 1) := by decide +kernel
theorem dX6_compareWithBest_6 : decode cX6_compareWithBest 6 = .ok (.istore_n 2, 1) := by decide +kernel
theorem dX6_compareWithBest_7 : decode cX6_compareWithBest 7 = .ok (.iload_n 2, 1) := by decide +kernel
theorem dX6_compareWithBest_8 : decode cX6_compareWithBest 8 = .ok (.aload_n 1, 1) := by decide +kernel
theorem dX6_compareWithBest_9 : decode cX6_compareWithBest 9 = .ok (.getfield 53, 3) := by decide +kernel
theorem dX6_compareWithBest_12 : decode cX6_compareWithBest 12 = .ok (.if_icmp .ge 138, 3) := by decide +kernel
theorem dX6_compareWithBest_15 : decode cX6_compareWithBest 15 = .ok (.iconst 0, 1) := by decide +kernel
theorem dX6_compareWithBest_16 : decode cX6_compareWithBest 16 = .ok (.istore_n 3, 1) := by decide +kernel
theorem dX6_compareWithBest_17 : decode cX6_compareWithBest 17 = .ok (.iload_n 3, 1) := by decide +kernel
theorem dX6_compareWithBest_18 : decode cX6_compareWithBest 18 = .ok (.aload_n 1, 1) := by decide +kernel
theorem dX6_compareWithBest_19 : decode cX6_compareWithBest 19 = .ok (.iload_n 2, 1) := by decide +kernel
theorem dX6_compareWithBest_20 : decode cX6_compareWithBest 20 = .ok (.invokevirtual 56, 3) := by decide +kernel
theorem dX6_compareWithBest_23 : decode cX6_compareWithBest 23 = .ok (.if_icmp .ge 121, 3) := by decide +kernel
theorem dX6_compareWithBest_26 : decode cX6_compareWithBest 26 = .ok (.iconst 0, 1) := by decide +kernel
theorem dX6_compareWithBest_27 : decode cX6_compareWithBest 27 = .ok (.istore 4, 2) := by decide +kernel
theorem dX6_compareWithBest_29 : decode cX6_compareWithBest 29 = .ok (.iload 4, 2) := by decide +kernel
theorem dX6_compareWithBest_31 : decode cX6_compareWithBest 31 = .ok (.aload_n 1, 1) := by decide +kernel
theorem dX6_compareWithBest_32 : decode cX6_compareWithBest 32 = .ok (.iload_n 2, 1) := by decide +kernel
theorem dX6_compareWithBest_33 : decode cX6_compareWithBest 33 = .ok (.invokevirtual 60, 3) := by decide +kernel
theorem dX6_compareWithBest_36 : decode cX6_compareWithBest 36 = .ok (.if_icmp .ge 102, 3) := by decide +kernel
theorem dX6_compareWithBest_39 : decode cX6_compareWithBest 39 = .ok (.aload_n 1, 1) := by decide +kernel
theorem dX6_compareWithBest_40 : decode cX6_compareWithBest 40 = .ok (.iload_n 2, 1) := by decide +kernel
theorem dX6_compareWithBest_41 : decode cX6_compareWithBest 41 = .ok (.aload_n 0, 1) := by decide +kernel
theorem dX6_compareWithBest_42 : decode cX6_compareWithBest 42 = .ok (.getfield 18, 3) := by decide +kernel
theorem dX6_compareWithBest_45 : decode cX6_compareWithBest 45 = .ok (.iload_n 3, 1) := by decide +kernel
theorem dX6_compareWithBest_46 : decode cX6_compareWithBest 46 = .ok (.iaload, 1) := by decide +kernel
theorem dX6_compareWithBest_47 : decode cX6_compareWithBest 47 = .ok (.aload_n 0, 1) := by decide +kernel
theorem dX6_compareWithBest_48 : decode cX6_compareWithBest 48 = .ok (.getfield 18, 3) := by decide +kernel
theorem dX6_compareWithBest_51 : decode cX6_compareWithBest 51 = .ok (.iload 4, 2) := by decide +kernel
theorem dX6_compareWithBest_53 : decode cX6_compareWithBest 53 = .ok (.iaload, 1) := by decide +kernel
theorem dX6_compareWithBest_54 : decode cX6_compareWithBest 54 = .ok (.invokevirtual 63, 3) := by decide +kernel
theorem dX6_compareWithBest_57 : decode cX6_compareWithBest 57 = .ok (.istore 5, 2) := by decide +kernel
theorem dX6_compareWithBest_59 : decode cX6_compareWithBest 59 = .ok (.aload_n 1, 1) := by decide +kernel
theorem dX6_compareWithBest_60 : decode cX6_compareWithBest 60 = .ok (.iload_n 2, 1) := by decide +kernel
theorem dX6_compareWithBest_61 : decode cX6_compareWithBest 61 = .ok (.aload_n 0, 1) := by decide +kernel
theorem dX6_compareWithBest_62 : decode cX6_compareWithBest 62 = .ok (.getfield 9, 3) := by decide +kernel
theorem dX6_compareWithBest_65 : decode cX6_compareWithBest 65 = .ok (.iload_n 3, 1) := by decide +kernel
theorem dX6_compareWithBest_66 : decode cX6_compareWithBest 66 = .ok (.iaload, 1) := by decide +kernel
theorem dX6_compareWithBest_67 : decode cX6_compareWithBest 67 = .ok (.aload_n 0, 1) := by decide +kernel
theorem dX6_compareWithBest_68 : decode cX6_compareWithBest 68 = .ok (.getfield 9, 3) := by decide +kernel
theorem dX6_compareWithBest_71 : decode cX6_compareWithBest 71 = .ok (.iload 4, 2) := by decide +kernel
theorem dX6_compareWithBest_73 : decode cX6_compareWithBest 73 = .ok (.iaload, 1) := by decide +kernel
theorem dX6_compareWithBest_74 : decode cX6_compareWithBest 74 = .ok (.invokevirtual 63, 3) := by decide +kernel
theorem dX6_compareWithBest_77 : decode cX6_compareWithBest 77 = .ok (.istore 6, 2) := by decide +kernel
theorem dX6_compareWithBest_79 : decode cX6_compareWithBest 79 = .ok (.aload_n 0, 1) := by decide +kernel
theorem dX6_compareWithBest_80 : decode cX6_compareWithBest 80 = .ok (.aload_n 0, 1) := by decide +kernel
theorem dX6_compareWithBest_81 : decode cX6_compareWithBest 81 = .ok (.getfield 50, 3) := by decide +kernel
theorem dX6_compareWithBest_84 : decode cX6_compareWithBest 84 = .ok (.iload 5, 2) := by decide +kernel
theorem dX6_compareWithBest_86 : decode cX6_compareWithBest 86 = .ok (.iload 6, 2) := by decide +kernel
theorem dX6_compareWithBest_88 : decode cX6_compareWithBest 88 = .ok (.invokestatic 67, 3) := by decide +kernel
theorem dX6_compareWithBest_91 : decode cX6_compareWithBest 91 = .ok (.invokestatic 67, 3) := by decide +kernel
theorem dX6_compareWithBest_94 : decode cX6_compareWithBest 94 = .ok (.putfield 50, 3) := by decide +kernel
theorem dX6_compareWithBest_97 : decode cX6_compareWithBest 97 = .ok (.aload_n 0, 1) := by decide +kernel
theorem dX6_compareWithBest_98 : decode cX6_compareWithBest 98 = .ok (.getfield 21, 3) := by decide +kernel
theorem dX6_compareWithBest_101 : decode cX6_compareWithBest 101 = .ok (.aload_n 1, 1) := by decide +kernel
theorem dX6_compareWithBest_102 : decode cX6_compareWithBest 102 = .ok (.getfield 73, 3) := by decide +kernel
theorem dX6_compareWithBest_105 : decode cX6_compareWithBest 105 = .ok (.iload 5, 2) := by decide +kernel
theorem dX6_compareWithBest_107 : decode cX6_compareWithBest 107 = .ok (.iaload, 1) := by decide +kernel
theorem dX6_compareWithBest_108 : decode cX6_compareWithBest 108 = .ok (.iaload, 1) := by decide +kernel
theorem dX6_compareWithBest_109 : decode cX6_compareWithBest 109 = .ok (.aload_n 0, 1) := by decide +kernel
theorem dX6_compareWithBest_110 : decode cX6_compareWithBest 110 = .ok (.getfield 15, 3) := by decide +kernel
theorem dX6_compareWithBest_113 : decode cX6_compareWithBest 113 = .ok (.aload_n 1, 1) := by decide +kernel
theorem dX6_compareWithBest_114 : decode cX6_compareWithBest 114 = .ok (.getfield 73, 3) := by decide +kernel
theorem dX6_compareWithBest_117 : decode cX6_compareWithBest 117 = .ok (.iload 6, 2) := by decide +kernel
theorem dX6_compareWithBest_119 : decode cX6_compareWithBest 119 = .ok (.iaload, 1) := by decide +kernel
theorem dX6_compareWithBest_120 : decode cX6_compareWithBest 120 = .ok (.iaload, 1) := by decide +kernel
theorem dX6_compareWithBest_121 : decode cX6_compareWithBest 121 = .ok (.isub, 1) := by decide +kernel
theorem dX6_compareWithBest_122 : decode cX6_compareWithBest 122 = .ok (.istore 7, 2) := by decide +kernel
theorem dX6_compareWithBest_124 : decode cX6_compareWithBest 124 = .ok (.iload 7, 2) := by decide +kernel
theorem dX6_compareWithBest_126 : decode cX6_compareWithBest 126 = .ok (.ifCond .eq 6, 3) := by decide +kernel
theorem dX6_compareWithBest_129 : decode cX6_compareWithBest 129 = .ok (.iload 7, 2) := by decide +kernel
theorem dX6_compareWithBest_131 : decode cX6_compareWithBest 131 = .ok (.ireturn, 1) := by decide +kernel
theorem dX6_compareWithBest_132 : decode cX6_compareWithBest 132 = .ok (.iinc 4 1, 3) := by decide +kernel
theorem dX6_compareWithBest_135 : decode cX6_compareWithBest 135 = .ok (.goto (-106), 3) := by decide +kernel
theorem dX6_compareWithBest_138 : decode cX6_compareWithBest 138 = .ok (.iinc 3 1, 3) := by decide +kernel
theorem dX6_compareWithBest_141 : decode cX6_compareWithBest 141 = .ok (.goto (-124), 3) := by decide +kernel
theorem dX6_compareWithBest_144 : decode cX6_compareWithBest 144 = .ok (.iinc 2 1, 3) := by decide +kernel
theorem dX6_compareWithBest_147 : decode cX6_compareWithBest 147 = .ok (.goto (-140), 3) := by decide +kernel
theorem dX6_compareWithBest_150 : decode cX6_compareWithBest 150 = .ok (.iconst 0, 1) := by decide +kernel
theorem dX6_compareWithBest_151 : decode cX6_compareWithBest 151 = .ok (.ireturn, 1) := by decide +kernel
def LX6_compareWithBest_29 (F : Nat) (u0 : Nat) (u1 : Nat) (u2 : Int) (u3 : Int) (k138 : Int → HF → RO) (k129 : Int → HF → RO) : Nat → Int → HF → RO
  | 0, _, _ => none
  | n + 1, v4, h =>
    zbd (fX0_columns F u1 u2 h) fun r5 h =>
    if v4 < r5 then (
      zrd h (u0 + 3) u3 fun x6 =>
      zrd h (u0 + 3) v4 fun x7 =>
      zbd (fX0_spot F u1 u2 x6 x7 h) fun r8 h =>
      zrd h (u0 + 1) u3 fun x9 =>
      zrd h (u0 + 1) v4 fun x10 =>
      zbd (fX0_spot F u1 u2 x9 x10 h) fun r11 h =>
      zgf h u0 3 fun x12 =>
      zpf h u0 3 (zmax x12 (zmax r8 r11)) fun h =>
      zrd h (u1 + 3) r8 fun x13 =>
      zrd h (u0 + 4) x13 fun x14 =>
      zrd h (u1 + 3) r11 fun x15 =>
      zrd h (u0 + 2) x15 fun x16 =>
      zlet (wr (x14 - x16)) fun x17 =>
      if x17 = 0 then (
        zlet (wr (v4 + 1)) fun x18 =>
        LX6_compareWithBest_29 F u0 u1 u2 u3 k138 k129 n x18 h
      ) else (
        k129 x17 h
      )
    ) else (
      k138 u3 h
    )
set_option maxHeartbeats 4000000 in
set_option maxRecDepth 100000 in
theorem wX6_compareWithBest_29 {p : Program} {l : Launch} {e : Env} {s : State} {m : MethodId} {args : Array Value} {below : List Frame} {meth : Method} {c : Code} {Q : State → Prop} {g : zG} {B : Nat} {o : Int × HF} (F : Nat) (cx : Cx p s m args meth c cX6_compareWithBest 8 RX6 (some .int) g B) (u0 : Nat) (ru0 : kt u0 = 9) (u1 : Nat) (ru1 : kt u1 = 3) (u2 : Int) (ru2 : rng u2) (u3 : Int) (ru3 : rng u3) (k138 : Int → HF → RO) (hk138 : ∀ (x3 : Int) (h : HF) (H : Heap) (locs : List Loc) (ls : Array Slot), rng x3 → Hp g B s h H locs → lv_has ls 8 [(0, .ref (B + u0)), (1, .ref (B + u1)), (2, .int (ii u2)), (3, .int (ii x3))] → k138 x3 h = some o → W p l e (rmn 1) s m args below meth c H locs 0 0 Q (F0 m 138 ls [])) (k129 : Int → HF → RO) (hk129 : ∀ (x7 : Int) (h : HF) (H : Heap) (locs : List Loc) (ls : Array Slot), rng x7 → Hp g B s h H locs → lv_has ls 8 [(7, .int (ii x7))] → k129 x7 h = some o → W p l e (rmn 1) s m args below meth c H locs 0 0 Q (F0 m 129 ls [])) : ∀ (n : Nat) (v4 : Int) (h : HF) (H : Heap) (locs : List Loc) (ls : Array Slot), rng v4 → Hp g B s h H locs → lv_has ls 8 [(0, .ref (B + u0)), (1, .ref (B + u1)), (2, .int (ii u2)), (3, .int (ii u3)), (4, .int (ii v4))] → LX6_compareWithBest_29 F u0 u1 u2 u3 k138 k129 n v4 h = some o → W p l e (rmn 1) s m args below meth c H locs 0 0 Q (F0 m 29 ls []) := by
  intro n
  induction n with
  | zero =>
    intro v4 h H locs ls rv4 hp hl hf
    cases hf
  | succ n ih =>
    intro v4 h H locs ls rv4 hp hl hf
    rw [LX6_compareWithBest_29] at hf
    refine lv_iload cx.1 cx.2.1 dX6_compareWithBest_29 (lv_at hl 4 rfl) ?_
    refine lv_aload_n cx.1 cx.2.1 dX6_compareWithBest_31 rfl (lv_at hl 1 rfl) ?_
    refine lv_iload_n cx.1 cx.2.1 dX6_compareWithBest_32 rfl (lv_at hl 2 rfl) ?_
    refine z_ci cx hp (fun o' hx => zrunV (n := 1) (As := [.int (ii u2)]) (rest := [.int (ii v4)]) cx hp (mX0_columns F l g B h u1 u2 ru1 ru2 o' hx) 0 ru1 (by decide) rfl vw_X0_columns ml_X6_60 (by decide) rfl hl.1 rfl (Nat.le_of_ble_eq_true rfl) dX6_compareWithBest_33) hf (fun r5 h H locs rr5 hp hf => ?_)
    refine z_icmp_ge cx rv4 rr5 (tgt := 138) dX6_compareWithBest_36 (by decide) hf (fun _ hf => ?_) (fun _ hf => ?_)
    · refine lv_aload_n cx.1 cx.2.1 dX6_compareWithBest_39 rfl (lv_at hl 1 rfl) ?_
      refine lv_iload_n cx.1 cx.2.1 dX6_compareWithBest_40 rfl (lv_at hl 2 rfl) ?_
      refine lv_aload_n cx.1 cx.2.1 dX6_compareWithBest_41 rfl (lv_at hl 0 rfl) ?_
      refine z_gets cx hp (T := TX6) 6 4 (u0 + 3) rfl zin_6 (by decide) (by decide) ru0 rfl fl_X6_18 dX6_compareWithBest_42 ?_
      refine lv_iload_n cx.1 cx.2.1 dX6_compareWithBest_45 rfl (lv_at hl 3 rfl) ?_
      refine z_iald cx hp (zs_6_4 u0 (kt_lt ru0 (by decide)) ru0) ru3 dX6_compareWithBest_46 hf (fun x6 rx6 hf => ?_)
      refine lv_aload_n cx.1 cx.2.1 dX6_compareWithBest_47 rfl (lv_at hl 0 rfl) ?_
      refine z_gets cx hp (T := TX6) 6 4 (u0 + 3) rfl zin_6 (by decide) (by decide) ru0 rfl fl_X6_18 dX6_compareWithBest_48 ?_
      refine lv_iload cx.1 cx.2.1 dX6_compareWithBest_51 (lv_at hl 4 rfl) ?_
      refine z_iald cx hp (zs_6_4 u0 (kt_lt ru0 (by decide)) ru0) rv4 dX6_compareWithBest_53 hf (fun x7 rx7 hf => ?_)
      refine z_ci cx hp (fun o' hx => zrunV (n := 1) (As := [.int (ii u2), .int (ii x6), .int (ii x7)]) (rest := []) cx hp (mX0_spot F l g B h u1 u2 x6 x7 ru1 ru2 rx6 rx7 o' hx) 0 ru1 (by decide) rfl vw_X0_spot ml_X6_63 (by decide) rfl hl.1 rfl (Nat.le_of_ble_eq_true rfl) dX6_compareWithBest_54) hf (fun r8 h H locs rr8 hp hf => ?_)
      refine lv_istore (lv' := [(5, .int (ii r8)), (0, .ref (B + u0)), (1, .ref (B + u1)), (2, .int (ii u2)), (3, .int (ii u3)), (4, .int (ii v4))]) cx.1 cx.2.1 dX6_compareWithBest_57 hl (by decide) rfl (fun ls hl => ?_)
      refine lv_aload_n cx.1 cx.2.1 dX6_compareWithBest_59 rfl (lv_at hl 2 rfl) ?_
      refine lv_iload_n cx.1 cx.2.1 dX6_compareWithBest_60 rfl (lv_at hl 3 rfl) ?_
      refine lv_aload_n cx.1 cx.2.1 dX6_compareWithBest_61 rfl (lv_at hl 1 rfl) ?_
      refine z_gets cx hp (T := TX6) 6 0 (u0 + 1) rfl zin_6 (by decide) (by decide) ru0 rfl fl_X6_9 dX6_compareWithBest_62 ?_
      refine lv_iload_n cx.1 cx.2.1 dX6_compareWithBest_65 rfl (lv_at hl 4 rfl) ?_
      refine z_iald cx hp (zs_6_0 u0 (kt_lt ru0 (by decide)) ru0) ru3 dX6_compareWithBest_66 hf (fun x9 rx9 hf => ?_)
      refine lv_aload_n cx.1 cx.2.1 dX6_compareWithBest_67 rfl (lv_at hl 1 rfl) ?_
      refine z_gets cx hp (T := TX6) 6 0 (u0 + 1) rfl zin_6 (by decide) (by decide) ru0 rfl fl_X6_9 dX6_compareWithBest_68 ?_
      refine lv_iload cx.1 cx.2.1 dX6_compareWithBest_71 (lv_at hl 5 rfl) ?_
      refine z_iald cx hp (zs_6_0 u0 (kt_lt ru0 (by decide)) ru0) rv4 dX6_compareWithBest_73 hf (fun x10 rx10 hf => ?_)
      refine z_ci cx hp (fun o' hx => zrunV (n := 1) (As := [.int (ii u2), .int (ii x9), .int (ii x10)]) (rest := []) cx hp (mX0_spot F l g B h u1 u2 x9 x10 ru1 ru2 rx9 rx10 o' hx) 0 ru1 (by decide) rfl vw_X0_spot ml_X6_63 (by decide) rfl hl.1 rfl (Nat.le_of_ble_eq_true rfl) dX6_compareWithBest_74) hf (fun r11 h H locs rr11 hp hf => ?_)
      refine lv_istore (lv' := [(6, .int (ii r11)), (5, .int (ii r8)), (0, .ref (B + u0)), (1, .ref (B + u1)), (2, .int (ii u2)), (3, .int (ii u3)), (4, .int (ii v4))]) cx.1 cx.2.1 dX6_compareWithBest_77 hl (by decide) rfl (fun ls hl => ?_)
      refine lv_aload_n cx.1 cx.2.1 dX6_compareWithBest_79 rfl (lv_at hl 2 rfl) ?_
      refine lv_aload_n cx.1 cx.2.1 dX6_compareWithBest_80 rfl (lv_at hl 2 rfl) ?_
      refine z_geti cx hp (T := TX6) 6 3 rfl zin_6 (by decide) (by decide) ru0 rfl fl_X6_50 dX6_compareWithBest_81 hf (fun x12 rx12 hf => ?_)
      refine lv_iload cx.1 cx.2.1 dX6_compareWithBest_84 (lv_at hl 1 rfl) ?_
      refine lv_iload cx.1 cx.2.1 dX6_compareWithBest_86 (lv_at hl 0 rfl) ?_
      refine z_mmax cx (n := 1) rr8 rr11 hl.1 (Nat.le_of_ble_eq_true rfl) mx_X6_67 (by decide) dX6_compareWithBest_88 ?_
      refine z_mmax cx (n := 1) rx12 (rng_max rr8 rr11) hl.1 (Nat.le_of_ble_eq_true rfl) mx_X6_67 (by decide) dX6_compareWithBest_91 ?_
      refine z_puti cx hp (T := TX6) tyX6 tyX6_ok nmX6 6 3 (rng_max rx12 (rng_max rr8 rr11)) rfl zin_6 (by decide) (by decide) ru0 rfl rfl rfl fl_X6_50 dX6_compareWithBest_94 hf (fun h H locs hp hf => ?_)
      refine lv_aload_n cx.1 cx.2.1 dX6_compareWithBest_97 rfl (lv_at hl 2 rfl) ?_
      refine z_gets cx hp (T := TX6) 6 5 (u0 + 4) rfl zin_6 (by decide) (by decide) ru0 rfl fl_X6_21 dX6_compareWithBest_98 ?_
      refine lv_aload_n cx.1 cx.2.1 dX6_compareWithBest_101 rfl (lv_at hl 3 rfl) ?_
      refine z_gets cx hp (T := TX0) 0 5 (u1 + 3) rfl zin_0 (by decide) (by decide) ru1 rfl fl_X6_73 dX6_compareWithBest_102 ?_
      refine lv_iload cx.1 cx.2.1 dX6_compareWithBest_105 (lv_at hl 1 rfl) ?_
      refine z_iald cx hp (zs_0_5 u1 (kt_lt ru1 (by decide)) ru1) rr8 dX6_compareWithBest_107 hf (fun x13 rx13 hf => ?_)
      refine z_iald cx hp (zs_6_5 u0 (kt_lt ru0 (by decide)) ru0) rx13 dX6_compareWithBest_108 hf (fun x14 rx14 hf => ?_)
      refine lv_aload_n cx.1 cx.2.1 dX6_compareWithBest_109 rfl (lv_at hl 2 rfl) ?_
      refine z_gets cx hp (T := TX6) 6 1 (u0 + 2) rfl zin_6 (by decide) (by decide) ru0 rfl fl_X6_15 dX6_compareWithBest_110 ?_
      refine lv_aload_n cx.1 cx.2.1 dX6_compareWithBest_113 rfl (lv_at hl 3 rfl) ?_
      refine z_gets cx hp (T := TX0) 0 5 (u1 + 3) rfl zin_0 (by decide) (by decide) ru1 rfl fl_X6_73 dX6_compareWithBest_114 ?_
      refine lv_iload cx.1 cx.2.1 dX6_compareWithBest_117 (lv_at hl 0 rfl) ?_
      refine z_iald cx hp (zs_0_5 u1 (kt_lt ru1 (by decide)) ru1) rr11 dX6_compareWithBest_119 hf (fun x15 rx15 hf => ?_)
      refine z_iald cx hp (zs_6_1 u0 (kt_lt ru0 (by decide)) ru0) rx15 dX6_compareWithBest_120 hf (fun x16 rx16 hf => ?_)
      refine z_isub cx dX6_compareWithBest_121 ?_
      refine z_let (rng_wr _) hf (fun x17 rx17 hf => ?_)
      refine lv_istore (lv' := [(7, .int (ii x17)), (6, .int (ii r11)), (5, .int (ii r8)), (0, .ref (B + u0)), (1, .ref (B + u1)), (2, .int (ii u2)), (3, .int (ii u3)), (4, .int (ii v4))]) cx.1 cx.2.1 dX6_compareWithBest_122 hl (by decide) rfl (fun ls hl => ?_)
      refine lv_iload cx.1 cx.2.1 dX6_compareWithBest_124 (lv_at hl 0 rfl) ?_
      refine z_if_eq cx rx17 (tgt := 132) dX6_compareWithBest_126 (by decide) hf (fun _ hf => ?_) (fun _ hf => ?_)
      · refine z_iinc cx (fun x18 => [(4, .int (ii x18)), (7, .int (ii x17)), (6, .int (ii r11)), (5, .int (ii r8)), (0, .ref (B + u0)), (1, .ref (B + u1)), (2, .int (ii u2)), (3, .int (ii u3))]) dX6_compareWithBest_132 hl (k := 7) rfl (by decide) (fun _ => rfl) hf (fun x18 rx18 hf ls hl => ?_)
        refine lv_goto (tgt := 29) cx.1 cx.2.1 dX6_compareWithBest_135 (by decide) ?_
        exact ih x18 h _ _ ls rx18 hp (lv_sub hl [4, 5, 6, 7, 0] rfl) hf
      · exact hk129 x17 h _ _ ls rx17 hp (lv_sub hl [0] rfl) hf
    · exact hk138 u3 h _ _ ls ru3 hp (lv_sub hl [0, 1, 2, 3] rfl) hf
def LX6_compareWithBest_17 (F : Nat) (u0 : Nat) (u1 : Nat) (u2 : Int) (k144 : Int → HF → RO) (k129 : Int → HF → RO) : Nat → Int → HF → RO
  | 0, _, _ => none
  | n + 1, v3, h =>
    zbd (fX0_rows F u1 u2 h) fun r3 h =>
    if v3 < r3 then (
      zjn (fun (x138_3 : Int) (h : HF) => (
        zlet (wr (x138_3 + 1)) fun x4 =>
        LX6_compareWithBest_17 F u0 u1 u2 k144 k129 n x4 h
      )) fun j138 =>
      LX6_compareWithBest_29 F u0 u1 u2 v3 j138 k129 F 0 h
    ) else (
      k144 u2 h
    )
set_option maxHeartbeats 4000000 in
set_option maxRecDepth 100000 in
theorem wX6_compareWithBest_17 {p : Program} {l : Launch} {e : Env} {s : State} {m : MethodId} {args : Array Value} {below : List Frame} {meth : Method} {c : Code} {Q : State → Prop} {g : zG} {B : Nat} {o : Int × HF} (F : Nat) (cx : Cx p s m args meth c cX6_compareWithBest 8 RX6 (some .int) g B) (u0 : Nat) (ru0 : kt u0 = 9) (u1 : Nat) (ru1 : kt u1 = 3) (u2 : Int) (ru2 : rng u2) (k144 : Int → HF → RO) (hk144 : ∀ (x2 : Int) (h : HF) (H : Heap) (locs : List Loc) (ls : Array Slot), rng x2 → Hp g B s h H locs → lv_has ls 8 [(0, .ref (B + u0)), (1, .ref (B + u1)), (2, .int (ii x2))] → k144 x2 h = some o → W p l e (rmn 1) s m args below meth c H locs 0 0 Q (F0 m 144 ls [])) (k129 : Int → HF → RO) (hk129 : ∀ (x7 : Int) (h : HF) (H : Heap) (locs : List Loc) (ls : Array Slot), rng x7 → Hp g B s h H locs → lv_has ls 8 [(7, .int (ii x7))] → k129 x7 h = some o → W p l e (rmn 1) s m args below meth c H locs 0 0 Q (F0 m 129 ls [])) : ∀ (n : Nat) (v3 : Int) (h : HF) (H : Heap) (locs : List Loc) (ls : Array Slot), rng v3 → Hp g B s h H locs → lv_has ls 8 [(0, .ref (B + u0)), (1, .ref (B + u1)), (2, .int (ii u2)), (3, .int (ii v3))] → LX6_compareWithBest_17 F u0 u1 u2 k144 k129 n v3 h = some o → W p l e (rmn 1) s m args below meth c H locs 0 0 Q (F0 m 17 ls []) := by
  intro n
  induction n with
  | zero =>
    intro v3 h H locs ls rv3 hp hl hf
    cases hf
  | succ n ih =>
    intro v3 h H locs ls rv3 hp hl hf
    rw [LX6_compareWithBest_17] at hf
    refine lv_iload_n cx.1 cx.2.1 dX6_compareWithBest_17 rfl (lv_at hl 3 rfl) ?_
    refine lv_aload_n cx.1 cx.2.1 dX6_compareWithBest_18 rfl (lv_at hl 1 rfl) ?_
    refine lv_iload_n cx.1 cx.2.1 dX6_compareWithBest_19 rfl (lv_at hl 2 rfl) ?_
    refine z_ci cx hp (fun o' hx => zrunV (n := 1) (As := [.int (ii u2)]) (rest := [.int (ii v3)]) cx hp (mX0_rows F l g B h u1 u2 ru1 ru2 o' hx) 0 ru1 (by decide) rfl vw_X0_rows ml_X6_56 (by decide) rfl hl.1 rfl (Nat.le_of_ble_eq_true rfl) dX6_compareWithBest_20) hf (fun r3 h H locs rr3 hp hf => ?_)
    refine z_icmp_ge cx rv3 rr3 (tgt := 144) dX6_compareWithBest_23 (by decide) hf (fun _ hf => ?_) (fun _ hf => ?_)
    · refine z_iconst cx dX6_compareWithBest_26 ?_
      refine lv_istore (lv' := [(4, .int (ii 0)), (0, .ref (B + u0)), (1, .ref (B + u1)), (2, .int (ii u2)), (3, .int (ii v3))]) cx.1 cx.2.1 dX6_compareWithBest_27 hl (by decide) rfl (fun ls hl => ?_)
      refine z_jn hf (fun j => ∀ (x138_3 : Int) (h : HF) (H : Heap) (locs : List Loc) (ls : Array Slot), rng x138_3 → Hp g B s h H locs → lv_has ls 8 [(0, .ref (B + u0)), (1, .ref (B + u1)), (2, .int (ii u2)), (3, .int (ii x138_3))] → j x138_3 h = some o → W p l e (rmn 1) s m args below meth c H locs 0 0 Q (F0 m 138 ls [])) ?_ (fun j138 hj138 hf => ?_)
      · intro x138_3 h H locs ls rx138_3 hp hl hf
        refine z_iinc cx (fun x4 => [(3, .int (ii x4)), (0, .ref (B + u0)), (1, .ref (B + u1)), (2, .int (ii u2))]) dX6_compareWithBest_138 hl (k := 3) rfl (by decide) (fun _ => rfl) hf (fun x4 rx4 hf ls hl => ?_)
        refine lv_goto (tgt := 17) cx.1 cx.2.1 dX6_compareWithBest_141 (by decide) ?_
        exact ih x4 h _ _ ls rx4 hp (lv_sub hl [1, 2, 3, 0] rfl) hf
      exact wX6_compareWithBest_29 F cx u0 ru0 u1 ru1 u2 ru2 v3 rv3 j138 hj138 k129 hk129 F 0 h _ _ ls (by decide) hp (lv_sub hl [1, 2, 3, 4, 0] rfl) hf
    · exact hk144 u2 h _ _ ls ru2 hp (lv_sub hl [0, 1, 2] rfl) hf
def LX6_compareWithBest_7 (F : Nat) (u0 : Nat) (u1 : Nat) (k150 : HF → RO) (k129 : Int → HF → RO) : Nat → Int → HF → RO
  | 0, _, _ => none
  | n + 1, v2, h =>
    zgf h u1 1 fun x1 =>
    if v2 < x1 then (
      zjn (fun (x144_2 : Int) (h : HF) => (
        zlet (wr (x144_2 + 1)) fun x2 =>
        LX6_compareWithBest_7 F u0 u1 k150 k129 n x2 h
      )) fun j144 =>
      LX6_compareWithBest_17 F u0 u1 v2 j144 k129 F 0 h
    ) else (
      k150  h
    )
set_option maxHeartbeats 4000000 in
set_option maxRecDepth 100000 in
theorem wX6_compareWithBest_7 {p : Program} {l : Launch} {e : Env} {s : State} {m : MethodId} {args : Array Value} {below : List Frame} {meth : Method} {c : Code} {Q : State → Prop} {g : zG} {B : Nat} {o : Int × HF} (F : Nat) (cx : Cx p s m args meth c cX6_compareWithBest 8 RX6 (some .int) g B) (u0 : Nat) (ru0 : kt u0 = 9) (u1 : Nat) (ru1 : kt u1 = 3) (k150 : HF → RO) (hk150 : ∀  (h : HF) (H : Heap) (locs : List Loc) (ls : Array Slot), Hp g B s h H locs → lv_has ls 8 [] → k150  h = some o → W p l e (rmn 1) s m args below meth c H locs 0 0 Q (F0 m 150 ls [])) (k129 : Int → HF → RO) (hk129 : ∀ (x7 : Int) (h : HF) (H : Heap) (locs : List Loc) (ls : Array Slot), rng x7 → Hp g B s h H locs → lv_has ls 8 [(7, .int (ii x7))] → k129 x7 h = some o → W p l e (rmn 1) s m args below meth c H locs 0 0 Q (F0 m 129 ls [])) : ∀ (n : Nat) (v2 : Int) (h : HF) (H : Heap) (locs : List Loc) (ls : Array Slot), rng v2 → Hp g B s h H locs → lv_has ls 8 [(0, .ref (B + u0)), (1, .ref (B + u1)), (2, .int (ii v2))] → LX6_compareWithBest_7 F u0 u1 k150 k129 n v2 h = some o → W p l e (rmn 1) s m args below meth c H locs 0 0 Q (F0 m 7 ls []) := by
  intro n
  induction n with
  | zero =>
    intro v2 h H locs ls rv2 hp hl hf
    cases hf
  | succ n ih =>
    intro v2 h H locs ls rv2 hp hl hf
    rw [LX6_compareWithBest_7] at hf
    refine lv_iload_n cx.1 cx.2.1 dX6_compareWithBest_7 rfl (lv_at hl 2 rfl) ?_
    refine lv_aload_n cx.1 cx.2.1 dX6_compareWithBest_8 rfl (lv_at hl 1 rfl) ?_
    refine z_geti cx hp (T := TX0) 0 1 rfl zin_0 (by decide) (by decide) ru1 rfl fl_X6_53 dX6_compareWithBest_9 hf (fun x1 rx1 hf => ?_)
    refine z_icmp_ge cx rv2 rx1 (tgt := 150) dX6_compareWithBest_12 (by decide) hf (fun _ hf => ?_) (fun _ hf => ?_)
    · refine z_iconst cx dX6_compareWithBest_15 ?_
      refine lv_istore_n (lv' := [(3, .int (ii 0)), (0, .ref (B + u0)), (1, .ref (B + u1)), (2, .int (ii v2))]) cx.1 cx.2.1 dX6_compareWithBest_16 rfl hl (by decide) rfl (fun ls hl => ?_)
      refine z_jn hf (fun j => ∀ (x144_2 : Int) (h : HF) (H : Heap) (locs : List Loc) (ls : Array Slot), rng x144_2 → Hp g B s h H locs → lv_has ls 8 [(0, .ref (B + u0)), (1, .ref (B + u1)), (2, .int (ii x144_2))] → j x144_2 h = some o → W p l e (rmn 1) s m args below meth c H locs 0 0 Q (F0 m 144 ls [])) ?_ (fun j144 hj144 hf => ?_)
      · intro x144_2 h H locs ls rx144_2 hp hl hf
        refine z_iinc cx (fun x2 => [(2, .int (ii x2)), (0, .ref (B + u0)), (1, .ref (B + u1))]) dX6_compareWithBest_144 hl (k := 2) rfl (by decide) (fun _ => rfl) hf (fun x2 rx2 hf ls hl => ?_)
        refine lv_goto (tgt := 7) cx.1 cx.2.1 dX6_compareWithBest_147 (by decide) ?_
        exact ih x2 h _ _ ls rx2 hp (lv_sub hl [1, 2, 0] rfl) hf
      exact wX6_compareWithBest_17 F cx u0 ru0 u1 ru1 v2 rv2 j144 hj144 k129 hk129 F 0 h _ _ ls (by decide) hp (lv_sub hl [1, 2, 3, 0] rfl) hf
    · exact hk150  h _ _ ls  hp (lv_sub hl [] rfl) hf
def fX6_compareWithBest (F : Nat) (a0 : Nat) (a1 : Nat) (h : HF) : RO :=
  zpf h a0 3 (-1) fun h =>
  zjn (fun  (h : HF) => (
    some (0, h)
  )) fun j150 =>
  zjn (fun (x129_7 : Int) (h : HF) => (
    some (x129_7, h)
  )) fun j129 =>
  LX6_compareWithBest_7 F a0 a1 j150 j129 F 0 h
set_option maxHeartbeats 4000000 in
set_option maxRecDepth 100000 in
theorem mX6_compareWithBest (F : Nat) (l : Launch) (g : zG) (B : Nat) (h : HF) (a0 : Nat) (a1 : Nat) (ra0 : kt a0 = 9) (ra1 : kt a1 = 3) : CTi l g B yX6_compareWithBest cX6_compareWithBest 8 (some .int) 1 [.ref (B + a0), .ref (B + a1)] h (fX6_compareWithBest F a0 a1 h) := by
  refine z_enterI (by decide) rfl (Nat.le_of_ble_eq_true rfl) ?_
  intro p e s m args below meth c ls o Q cx hp hl hf hQ
  have hl : lv_has ls 8 [(0, .ref (B + a0)), (1, .ref (B + a1))] := hl
  unfold fX6_compareWithBest at hf
  refine lv_aload_n cx.1 cx.2.1 dX6_compareWithBest_0 rfl (lv_at hl 0 rfl) ?_
  refine z_iconst cx dX6_compareWithBest_1 ?_
  refine z_puti cx hp (T := TX6) tyX6 tyX6_ok nmX6 6 3 (by decide) rfl zin_6 (by decide) (by decide) ra0 rfl rfl rfl fl_X6_50 dX6_compareWithBest_2 hf (fun h H locs hp hf => ?_)
  refine z_iconst cx dX6_compareWithBest_5 ?_
  refine lv_istore_n (lv' := [(2, .int (ii 0)), (0, .ref (B + a0)), (1, .ref (B + a1))]) cx.1 cx.2.1 dX6_compareWithBest_6 rfl hl (by decide) rfl (fun ls hl => ?_)
  refine z_jn hf (fun j => ∀  (h : HF) (H : Heap) (locs : List Loc) (ls : Array Slot), Hp g B s h H locs → lv_has ls 8 [] → j  h = some o → W p l e (rmn 1) s m args below meth c H locs 0 0 Q (F0 m 150 ls [])) ?_ (fun j150 hj150 hf => ?_)
  · intro  h H locs ls  hp hl hf
    refine z_iconst cx dX6_compareWithBest_150 ?_
    rw [hQ]; exact z_iret cx hp (by decide) dX6_compareWithBest_151 hf
  refine z_jn hf (fun j => ∀ (x129_7 : Int) (h : HF) (H : Heap) (locs : List Loc) (ls : Array Slot), rng x129_7 → Hp g B s h H locs → lv_has ls 8 [(7, .int (ii x129_7))] → j x129_7 h = some o → W p l e (rmn 1) s m args below meth c H locs 0 0 Q (F0 m 129 ls [])) ?_ (fun j129 hj129 hf => ?_)
  · intro x129_7 h H locs ls rx129_7 hp hl hf
    refine lv_iload cx.1 cx.2.1 dX6_compareWithBest_129 (lv_at hl 0 rfl) ?_
    rw [hQ]; exact z_iret cx hp rx129_7 dX6_compareWithBest_131 hf
  exact wX6_compareWithBest_7 F cx a0 ra0 a1 ra1 j150 hj150 j129 hj129 F 0 h _ _ ls (by decide) hp (lv_sub hl [1, 2, 0] rfl) hf
