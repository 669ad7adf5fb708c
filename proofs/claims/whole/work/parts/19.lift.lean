theorem dX12_feed_0 : decode cX12_feed 0 = .ok (.aload_n 0, 1) := by decide +kernel
theorem dX12_feed_1 : decode cX12_feed 1 = .ok (.iconst 0, 1) := by decide +kernel
theorem dX12_feed_2 : decode cX12_feed 2 = .ok (.putfield 115, 3) := by decide +kernel
theorem dX12_feed_5 : decode cX12_feed 5 = .ok (.aload_n 0, 1) := by decide +kernel
theorem dX12_feed_6 : decode cX12_feed 6 = .ok (.getfield 119, 3) := by decide +kernel
theorem dX12_feed_9 : decode cX12_feed 9 = .ok (.bipush 20, 2) := by decide +kernel
theorem dX12_feed_11 : decode cX12_feed 11 = .ok (.iadd, 1) := by decide +kernel
theorem dX12_feed_12 : decode cX12_feed 12 = .ok (.sipush 400, 3) := by decide +kernel
theorem dX12_feed_15 : decode cX12_feed 15 = .ok (.if_icmp .le 6, 3) := by decide +kernel
theorem dX12_feed_18 : decode cX12_feed 18 = .ok (.bipush (-5), 2) := by decide +kernel
theorem dX12_feed_20 : decode cX12_feed 20 = .ok (.ireturn, 1) := by decide +kernel
theorem dX12_feed_21 : decode cX12_feed 21 = .ok (.aload_n 0, 1) := by decide +kernel
theorem dX12_feed_22 : decode cX12_feed 22 = .ok (.iload_n 1, 1) := by decide +kernel
theorem dX12_feed_23 : decode cX12_feed 23 = .ok (.invokevirtual 122, 3) := by decide +kernel
theorem dX12_feed_26 : decode cX12_feed 26 = .ok (.aload_n 0, 1) := by decide +kernel
theorem dX12_feed_27 : decode cX12_feed 27 = .ok (.iload_n 2, 1) := by decide +kernel
theorem dX12_feed_28 : decode cX12_feed 28 = .ok (.invokevirtual 122, 3) := by decide +kernel
theorem dX12_feed_31 : decode cX12_feed 31 = .ok (.aload_n 0, 1) := by decide +kernel
theorem dX12_feed_32 : decode cX12_feed 32 = .ok (.iload_n 3, 1) := by decide +kernel
theorem dX12_feed_33 : decode cX12_feed 33 = .ok (.invokevirtual 122, 3) := by decide +kernel
theorem dX12_feed_36 : decode cX12_feed 36 = .ok (.aload_n 0, 1) := by decide +kernel
theorem dX12_feed_37 : decode cX12_feed 37 = .ok (.iload 4, 2) := by decide +kernel
theorem dX12_feed_39 : decode cX12_feed 39 = .ok (.invokevirtual 122, 3) := by decide +kernel
theorem dX12_feed_42 : decode cX12_feed 42 = .ok (.aload_n 0, 1) := by decide +kernel
theorem dX12_feed_43 : decode cX12_feed 43 = .ok (.iload 5, 2) := by decide +kernel
theorem dX12_feed_45 : decode cX12_feed 45 = .ok (.invokevirtual 122, 3) := by decide +kernel
theorem dX12_feed_48 : decode cX12_feed 48 = .ok (.aload_n 0, 1) := by decide +kernel
theorem dX12_feed_49 : decode cX12_feed 49 = .ok (.getfield 119, 3) := by decide +kernel
theorem dX12_feed_52 : decode cX12_feed 52 = .ok (.ireturn, 1) := by decide +kernel
def fX12_feed (F : Nat) (a0 : Nat) (a1 : Int) (a2 : Int) (a3 : Int) (a4 : Int) (a5 : Int) (h : HF) : RO :=
  zpf h a0 0 0 fun h =>
  zgf h a0 2 fun x1 =>
  if 400 < wr (x1 + 20) then (
    some ((-5), h)
  ) else (
    zbd (fX12_four F a0 a1 h) fun _ h =>
    zbd (fX12_four F a0 a2 h) fun _ h =>
    zbd (fX12_four F a0 a3 h) fun _ h =>
    zbd (fX12_four F a0 a4 h) fun _ h =>
    zbd (fX12_four F a0 a5 h) fun _ h =>
    zgf h a0 2 fun x7 =>
    some (x7, h)
  )
set_option maxHeartbeats 4000000 in
set_option maxRecDepth 100000 in
theorem mX12_feed (F : Nat) (l : Launch) (g : zG) (B : Nat) (h : HF) (a0 : Nat) (a1 : Int) (a2 : Int) (a3 : Int) (a4 : Int) (a5 : Int) (ra0 : kt a0 = 15) (ra1 : rng a1) (ra2 : rng a2) (ra3 : rng a3) (ra4 : rng a4) (ra5 : rng a5) : CTi l g B yX12_feed cX12_feed 6 (some .int) 1 [.ref (B + a0), .int (ii a1), .int (ii a2), .int (ii a3), .int (ii a4), .int (ii a5)] h (fX12_feed F a0 a1 a2 a3 a4 a5 h) := by
  refine z_enterI (by decide) rfl (Nat.le_of_ble_eq_true rfl) ?_
  intro p e s m args below meth c ls o Q cx hp hl hf hQ
  have hl : lv_has ls 6 [(0, .ref (B + a0)), (1, .int (ii a1)), (2, .int (ii a2)), (3, .int (ii a3)), (4, .int (ii a4)), (5, .int (ii a5))] := hl
  unfold fX12_feed at hf
  refine lv_aload_n cx.1 cx.2.1 dX12_feed_0 rfl (lv_at hl 0 rfl) ?_
  refine z_iconst cx dX12_feed_1 ?_
  refine z_puti cx hp (T := TX12) tyX12 tyX12_ok nmX12 12 0 (by decide) rfl zin_12 (by decide) (by decide) ra0 rfl rfl rfl fl_X12_115 dX12_feed_2 hf (fun h H locs hp hf => ?_)
  refine lv_aload_n cx.1 cx.2.1 dX12_feed_5 rfl (lv_at hl 0 rfl) ?_
  refine z_geti cx hp (T := TX12) 12 2 rfl zin_12 (by decide) (by decide) ra0 rfl fl_X12_119 dX12_feed_6 hf (fun x1 rx1 hf => ?_)
  refine z_bipush cx (by decide) dX12_feed_9 ?_
  refine z_iadd cx dX12_feed_11 ?_
  refine z_sipush cx (by decide) dX12_feed_12 ?_
  refine z_icmp_le cx (rng_wr _) (by decide) (tgt := 21) dX12_feed_15 (by decide) hf (fun _ hf => ?_) (fun _ hf => ?_)
  · refine z_bipush cx (by decide) dX12_feed_18 ?_
    rw [hQ]; exact z_iret cx hp (by decide) dX12_feed_20 hf
  · refine lv_aload_n cx.1 cx.2.1 dX12_feed_21 rfl (lv_at hl 0 rfl) ?_
    refine lv_iload_n cx.1 cx.2.1 dX12_feed_22 rfl (lv_at hl 1 rfl) ?_
    refine z_cv cx hp (fun o' hx => zrunV (n := 1) (As := [.int (ii a1)]) (rest := []) cx hp (mX12_four F l g B h a0 a1 ra0 ra1 o' hx) 12 ra0 (by decide) rfl vw_X12_four ml_X12_122 (by decide) rfl hl.1 rfl (Nat.le_of_ble_eq_true rfl) dX12_feed_23) hf (fun _ h H locs hp hf => ?_)
    refine lv_aload_n cx.1 cx.2.1 dX12_feed_26 rfl (lv_at hl 0 rfl) ?_
    refine lv_iload_n cx.1 cx.2.1 dX12_feed_27 rfl (lv_at hl 2 rfl) ?_
    refine z_cv cx hp (fun o' hx => zrunV (n := 1) (As := [.int (ii a2)]) (rest := []) cx hp (mX12_four F l g B h a0 a2 ra0 ra2 o' hx) 12 ra0 (by decide) rfl vw_X12_four ml_X12_122 (by decide) rfl hl.1 rfl (Nat.le_of_ble_eq_true rfl) dX12_feed_28) hf (fun _ h H locs hp hf => ?_)
    refine lv_aload_n cx.1 cx.2.1 dX12_feed_31 rfl (lv_at hl 0 rfl) ?_
    refine lv_iload_n cx.1 cx.2.1 dX12_feed_32 rfl (lv_at hl 3 rfl) ?_
    refine z_cv cx hp (fun o' hx => zrunV (n := 1) (As := [.int (ii a3)]) (rest := []) cx hp (mX12_four F l g B h a0 a3 ra0 ra3 o' hx) 12 ra0 (by decide) rfl vw_X12_four ml_X12_122 (by decide) rfl hl.1 rfl (Nat.le_of_ble_eq_true rfl) dX12_feed_33) hf (fun _ h H locs hp hf => ?_)
    refine lv_aload_n cx.1 cx.2.1 dX12_feed_36 rfl (lv_at hl 0 rfl) ?_
    refine lv_iload cx.1 cx.2.1 dX12_feed_37 (lv_at hl 4 rfl) ?_
    refine z_cv cx hp (fun o' hx => zrunV (n := 1) (As := [.int (ii a4)]) (rest := []) cx hp (mX12_four F l g B h a0 a4 ra0 ra4 o' hx) 12 ra0 (by decide) rfl vw_X12_four ml_X12_122 (by decide) rfl hl.1 rfl (Nat.le_of_ble_eq_true rfl) dX12_feed_39) hf (fun _ h H locs hp hf => ?_)
    refine lv_aload_n cx.1 cx.2.1 dX12_feed_42 rfl (lv_at hl 0 rfl) ?_
    refine lv_iload cx.1 cx.2.1 dX12_feed_43 (lv_at hl 5 rfl) ?_
    refine z_cv cx hp (fun o' hx => zrunV (n := 1) (As := [.int (ii a5)]) (rest := []) cx hp (mX12_four F l g B h a0 a5 ra0 ra5 o' hx) 12 ra0 (by decide) rfl vw_X12_four ml_X12_122 (by decide) rfl hl.1 rfl (Nat.le_of_ble_eq_true rfl) dX12_feed_45) hf (fun _ h H locs hp hf => ?_)
    refine lv_aload_n cx.1 cx.2.1 dX12_feed_48 rfl (lv_at hl 0 rfl) ?_
    refine z_geti cx hp (T := TX12) 12 2 rfl zin_12 (by decide) (by decide) ra0 rfl fl_X12_119 dX12_feed_49 hf (fun x7 rx7 hf => ?_)
    rw [hQ]; exact z_iret cx hp rx7 dX12_feed_52 hf
theorem dX12_stamp_0 : decode cX12_stamp 0 = .ok (.aload_n 0, 1) := by decide +kernel
theorem dX12_stamp_1 : decode cX12_stamp 1 = .ok (.iconst 0, 1) := by decide +kernel
theorem dX12_stamp_2 : decode cX12_stamp 2 = .ok (.putfield 115, 3) := by decide +kernel
theorem dX12_stamp_5 : decode cX12_stamp 5 = .ok (.aload_n 0, 1) := by decide +kernel
theorem dX12_stamp_6 : decode cX12_stamp 6 = .ok (.iload_n 1, 1) := by decide +kernel
theorem dX12_stamp_7 : decode cX12_stamp 7 = .ok (.iload_n 2, 1) := by decide +kernel
theorem dX12_stamp_8 : decode cX12_stamp 8 = .ok (.invokevirtual 181, 3) := by decide +kernel
theorem dX12_stamp_11 : decode cX12_stamp 11 = .ok (.istore 6, 2) := by decide +kernel
theorem dX12_stamp_13 : decode cX12_stamp 13 = .ok (.iload 6, 2) := by decide +kernel
theorem dX12_stamp_15 : decode cX12_stamp 15 = .ok (.ifCond .eq 6, 3) := by decide +kernel
theorem dX12_stamp_18 : decode cX12_stamp 18 = .ok (.iload 6, 2) := by decide +kernel
theorem dX12_stamp_20 : decode cX12_stamp 20 = .ok (.ireturn, 1) := by decide +kernel
theorem dX12_stamp_21 : decode cX12_stamp 21 = .ok (.aload_n 0, 1) := by decide +kernel
theorem dX12_stamp_22 : decode cX12_stamp 22 = .ok (.iload_n 1, 1) := by decide +kernel
theorem dX12_stamp_23 : decode cX12_stamp 23 = .ok (.iload_n 3, 1) := by decide +kernel
theorem dX12_stamp_24 : decode cX12_stamp 24 = .ok (.invokevirtual 164, 3) := by decide +kernel
theorem dX12_stamp_27 : decode cX12_stamp 27 = .ok (.ifCond .eq 29, 3) := by decide +kernel
theorem dX12_stamp_30 : decode cX12_stamp 30 = .ok (.aload_n 0, 1) := by decide +kernel
theorem dX12_stamp_31 : decode cX12_stamp 31 = .ok (.iload_n 1, 1) := by decide +kernel
theorem dX12_stamp_32 : decode cX12_stamp 32 = .ok (.iload 4, 2) := by decide +kernel
theorem dX12_stamp_34 : decode cX12_stamp 34 = .ok (.invokevirtual 164, 3) := by decide +kernel
theorem dX12_stamp_37 : decode cX12_stamp 37 = .ok (.ifCond .eq 19, 3) := by decide +kernel
theorem dX12_stamp_40 : decode cX12_stamp 40 = .ok (.iload 5, 2) := by decide +kernel
theorem dX12_stamp_42 : decode cX12_stamp 42 = .ok (.ifCond .lt 14, 3) := by decide +kernel
theorem dX12_stamp_45 : decode cX12_stamp 45 = .ok (.iload 5, 2) := by decide +kernel
theorem dX12_stamp_47 : decode cX12_stamp 47 = .ok (.aload_n 0, 1) := by decide +kernel
theorem dX12_stamp_48 : decode cX12_stamp 48 = .ok (.getfield 16, 3) := by decide +kernel
theorem dX12_stamp_51 : decode cX12_stamp 51 = .ok (.iload_n 1, 1) := by decide +kernel
theorem dX12_stamp_52 : decode cX12_stamp 52 = .ok (.iaload, 1) := by decide +kernel
theorem dX12_stamp_53 : decode cX12_stamp 53 = .ok (.if_icmp .le 6, 3) := by decide +kernel
theorem dX12_stamp_59 : decode cX12_stamp 59 = .ok (.aload_n 0, 1) := by decide +kernel
theorem dX12_stamp_60 : decode cX12_stamp 60 = .ok (.iload_n 1, 1) := by decide +kernel
theorem dX12_stamp_61 : decode cX12_stamp 61 = .ok (.invokevirtual 153, 3) := by decide +kernel
theorem dX12_stamp_64 : decode cX12_stamp 64 = .ok (.iconst 0, 1) := by decide +kernel
theorem dX12_stamp_65 : decode cX12_stamp 65 = .ok (.istore 7, 2) := by decide +kernel
theorem dX12_stamp_67 : decode cX12_stamp 67 = .ok (.iload 7, 2) := by decide +kernel
theorem dX12_stamp_69 : decode cX12_stamp 69 = .ok (.iload 5, 2) := by decide +kernel
theorem dX12_stamp_71 : decode cX12_stamp 71 = .ok (.if_icmp .ge 33, 3) := by decide +kernel
theorem dX12_stamp_74 : decode cX12_stamp 74 = .ok (.aload_n 0, 1) := by decide +kernel
theorem dX12_stamp_75 : decode cX12_stamp 75 = .ok (.getfield 25, 3) := by decide +kernel
theorem dX12_stamp_78 : decode cX12_stamp 78 = .ok (.aload_n 0, 1) := by decide +kernel
theorem dX12_stamp_79 : decode cX12_stamp 79 = .ok (.iload_n 1, 1) := by decide +kernel
theorem dX12_stamp_80 : decode cX12_stamp 80 = .ok (.iload_n 2, 1) := by decide +kernel
theorem dX12_stamp_81 : decode cX12_stamp 81 = .ok (.iload 4, 2) := by decide +kernel
theorem dX12_stamp_83 : decode cX12_stamp 83 = .ok (.iload 7, 2) := by decide +kernel
theorem dX12_stamp_85 : decode cX12_stamp 85 = .ok (.invokevirtual 136, 3) := by decide +kernel
theorem dX12_stamp_88 : decode cX12_stamp 88 = .ok (.aload_n 0, 1) := by decide +kernel
theorem dX12_stamp_89 : decode cX12_stamp 89 = .ok (.iload_n 1, 1) := by decide +kernel
theorem dX12_stamp_90 : decode cX12_stamp 90 = .ok (.iload_n 2, 1) := by decide +kernel
theorem dX12_stamp_91 : decode cX12_stamp 91 = .ok (.iload_n 3, 1) := by decide +kernel
theorem dX12_stamp_92 : decode cX12_stamp 92 = .ok (.iload 7, 2) := by decide +kernel
theorem dX12_stamp_94 : decode cX12_stamp 94 = .ok (.invokevirtual 178, 3) := by decide +kernel
theorem dX12_stamp_97 : decode cX12_stamp 97 = .ok (.iastore, 1) := by decide +kernel
theorem dX12_stamp_98 : decode cX12_stamp 98 = .ok (.iinc 7 1, 3) := by decide +kernel
theorem dX12_stamp_101 : decode cX12_stamp 101 = .ok (.goto (-34), 3) := by decide +kernel
theorem dX12_stamp_104 : decode cX12_stamp 104 = .ok (.iload 5, 2) := by decide +kernel
theorem dX12_stamp_106 : decode cX12_stamp 106 = .ok (.ireturn, 1) := by decide +kernel
theorem dX12_stamp_56 : decode cX12_stamp 56 = .ok (.bipush (-13), 2) := by decide +kernel
theorem dX12_stamp_58 : decode cX12_stamp 58 = .ok (.ireturn, 1) := by decide +kernel
def LX12_stamp_67 (F : Nat) (u0 : Nat) (u1 : Int) (u2 : Int) (u3 : Int) (u4 : Int) (u5 : Int) (k104 : HF → RO) : Nat → Int → HF → RO
  | 0, _, _ => none
  | n + 1, v7, h =>
    if v7 < u5 then (
      zbd (fX12_at F u0 u1 u2 u4 v7 h) fun r6 h =>
      zbd (fX12_value F u0 u1 u2 u3 v7 h) fun r7 h =>
      zwr h (u0 + 6) r6 r7 fun h =>
      zlet (wr (v7 + 1)) fun x8 =>
      LX12_stamp_67 F u0 u1 u2 u3 u4 u5 k104 n x8 h
    ) else (
      k104  h
    )
set_option maxHeartbeats 4000000 in
set_option maxRecDepth 100000 in
theorem wX12_stamp_67 {p : Program} {l : Launch} {e : Env} {s : State} {m : MethodId} {args : Array Value} {below : List Frame} {meth : Method} {c : Code} {Q : State → Prop} {g : zG} {B : Nat} {o : Int × HF} (F : Nat) (cx : Cx p s m args meth c cX12_stamp 8 RX12 (some .int) g B) (u0 : Nat) (ru0 : kt u0 = 15) (u1 : Int) (ru1 : rng u1) (u2 : Int) (ru2 : rng u2) (u3 : Int) (ru3 : rng u3) (u4 : Int) (ru4 : rng u4) (u5 : Int) (ru5 : rng u5) (k104 : HF → RO) (hk104 : ∀  (h : HF) (H : Heap) (locs : List Loc) (ls : Array Slot), Hp g B s h H locs → lv_has ls 8 [(5, .int (ii u5))] → k104  h = some o → W p l e (rmn 3) s m args below meth c H locs 0 0 Q (F0 m 104 ls [])) : ∀ (n : Nat) (v7 : Int) (h : HF) (H : Heap) (locs : List Loc) (ls : Array Slot), rng v7 → Hp g B s h H locs → lv_has ls 8 [(0, .ref (B + u0)), (1, .int (ii u1)), (2, .int (ii u2)), (3, .int (ii u3)), (4, .int (ii u4)), (5, .int (ii u5)), (7, .int (ii v7))] → LX12_stamp_67 F u0 u1 u2 u3 u4 u5 k104 n v7 h = some o → W p l e (rmn 3) s m args below meth c H locs 0 0 Q (F0 m 67 ls []) := by
  intro n
  induction n with
  | zero =>
    intro v7 h H locs ls rv7 hp hl hf
    cases hf
  | succ n ih =>
    intro v7 h H locs ls rv7 hp hl hf
    rw [LX12_stamp_67] at hf
    refine lv_iload cx.1 cx.2.1 dX12_stamp_67 (lv_at hl 6 rfl) ?_
    refine lv_iload cx.1 cx.2.1 dX12_stamp_69 (lv_at hl 5 rfl) ?_
    refine z_icmp_ge cx rv7 ru5 (tgt := 104) dX12_stamp_71 (by decide) hf (fun _ hf => ?_) (fun _ hf => ?_)
    · refine lv_aload_n cx.1 cx.2.1 dX12_stamp_74 rfl (lv_at hl 0 rfl) ?_
      refine z_gets cx hp (T := TX12) 12 9 (u0 + 6) rfl zin_12 (by decide) (by decide) ru0 rfl fl_X12_25 dX12_stamp_75 ?_
      refine lv_aload_n cx.1 cx.2.1 dX12_stamp_78 rfl (lv_at hl 0 rfl) ?_
      refine lv_iload_n cx.1 cx.2.1 dX12_stamp_79 rfl (lv_at hl 1 rfl) ?_
      refine lv_iload_n cx.1 cx.2.1 dX12_stamp_80 rfl (lv_at hl 2 rfl) ?_
      refine lv_iload cx.1 cx.2.1 dX12_stamp_81 (lv_at hl 4 rfl) ?_
      refine lv_iload cx.1 cx.2.1 dX12_stamp_83 (lv_at hl 6 rfl) ?_
      refine z_ci cx hp (fun o' hx => zrunV (n := 3) (As := [.int (ii u1), .int (ii u2), .int (ii u4), .int (ii v7)]) (rest := [.ref (B + (u0 + 6))]) cx hp (mX12_at F l g B h u0 u1 u2 u4 v7 ru0 ru1 ru2 ru4 rv7 o' hx) 12 ru0 (by decide) rfl vw_X12_at ml_X12_136 (by decide) rfl hl.1 rfl (Nat.le_of_ble_eq_true rfl) dX12_stamp_85) hf (fun r6 h H locs rr6 hp hf => ?_)
      refine lv_aload_n cx.1 cx.2.1 dX12_stamp_88 rfl (lv_at hl 0 rfl) ?_
      refine lv_iload_n cx.1 cx.2.1 dX12_stamp_89 rfl (lv_at hl 1 rfl) ?_
      refine lv_iload_n cx.1 cx.2.1 dX12_stamp_90 rfl (lv_at hl 2 rfl) ?_
      refine lv_iload_n cx.1 cx.2.1 dX12_stamp_91 rfl (lv_at hl 3 rfl) ?_
      refine lv_iload cx.1 cx.2.1 dX12_stamp_92 (lv_at hl 6 rfl) ?_
      refine z_ci cx hp (fun o' hx => zrunV (n := 3) (As := [.int (ii u1), .int (ii u2), .int (ii u3), .int (ii v7)]) (rest := [.int (ii r6), .ref (B + (u0 + 6))]) cx hp (mX12_value F l g B h u0 u1 u2 u3 v7 ru0 ru1 ru2 ru3 rv7 o' hx) 12 ru0 (by decide) rfl vw_X12_value ml_X12_178 (by decide) rfl hl.1 rfl (Nat.le_of_ble_eq_true rfl) dX12_stamp_94) hf (fun r7 h H locs rr7 hp hf => ?_)
      refine z_iast cx hp (zs_12_9 u0 (kt_lt ru0 (by decide)) ru0) rr6 rr7 dX12_stamp_97 hf (fun h H locs hp hf => ?_)
      refine z_iinc cx (fun x8 => [(7, .int (ii x8)), (0, .ref (B + u0)), (1, .int (ii u1)), (2, .int (ii u2)), (3, .int (ii u3)), (4, .int (ii u4)), (5, .int (ii u5))]) dX12_stamp_98 hl (k := 6) rfl (by decide) (fun _ => rfl) hf (fun x8 rx8 hf ls hl => ?_)
      refine lv_goto (tgt := 67) cx.1 cx.2.1 dX12_stamp_101 (by decide) ?_
      exact ih x8 h _ _ ls rx8 hp (lv_sub hl [1, 2, 3, 4, 5, 6, 0] rfl) hf
    · exact hk104  h _ _ ls  hp (lv_sub hl [5] rfl) hf
def fX12_stamp (F : Nat) (a0 : Nat) (a1 : Int) (a2 : Int) (a3 : Int) (a4 : Int) (a5 : Int) (h : HF) : RO :=
  zpf h a0 0 0 fun h =>
  zbd (fX12_refuseTwo F a0 a1 a2 h) fun r1 h =>
  if r1 = 0 then (
    zbd (fX12_isElement F a0 a1 a3 h) fun r2 h =>
    zjn (fun  (h : HF) => (
      some ((-13), h)
    )) fun j56 =>
    if r2 = 0 then (
      j56  h
    ) else (
      zbd (fX12_isElement F a0 a1 a4 h) fun r3 h =>
      if r3 = 0 then (
        j56  h
      ) else (
        if a5 < 0 then (
          j56  h
        ) else (
          zrd h (a0 + 3) a1 fun x4 =>
          if x4 < a5 then (
            j56  h
          ) else (
            zbd (fX12_keep F a0 a1 h) fun _ h =>
            zjn (fun  (h : HF) => (
              some (a5, h)
            )) fun j104 =>
            LX12_stamp_67 F a0 a1 a2 a3 a4 a5 j104 F 0 h
          )
        )
      )
    )
  ) else (
    some (r1, h)
  )
set_option maxHeartbeats 4000000 in
set_option maxRecDepth 100000 in
theorem mX12_stamp (F : Nat) (l : Launch) (g : zG) (B : Nat) (h : HF) (a0 : Nat) (a1 : Int) (a2 : Int) (a3 : Int) (a4 : Int) (a5 : Int) (ra0 : kt a0 = 15) (ra1 : rng a1) (ra2 : rng a2) (ra3 : rng a3) (ra4 : rng a4) (ra5 : rng a5) : CTi l g B yX12_stamp cX12_stamp 8 (some .int) 3 [.ref (B + a0), .int (ii a1), .int (ii a2), .int (ii a3), .int (ii a4), .int (ii a5)] h (fX12_stamp F a0 a1 a2 a3 a4 a5 h) := by
  refine z_enterI (by decide) rfl (Nat.le_of_ble_eq_true rfl) ?_
  intro p e s m args below meth c ls o Q cx hp hl hf hQ
  have hl : lv_has ls 8 [(0, .ref (B + a0)), (1, .int (ii a1)), (2, .int (ii a2)), (3, .int (ii a3)), (4, .int (ii a4)), (5, .int (ii a5))] := hl
  unfold fX12_stamp at hf
  refine lv_aload_n cx.1 cx.2.1 dX12_stamp_0 rfl (lv_at hl 0 rfl) ?_
  refine z_iconst cx dX12_stamp_1 ?_
  refine z_puti cx hp (T := TX12) tyX12 tyX12_ok nmX12 12 0 (by decide) rfl zin_12 (by decide) (by decide) ra0 rfl rfl rfl fl_X12_115 dX12_stamp_2 hf (fun h H locs hp hf => ?_)
  refine lv_aload_n cx.1 cx.2.1 dX12_stamp_5 rfl (lv_at hl 0 rfl) ?_
  refine lv_iload_n cx.1 cx.2.1 dX12_stamp_6 rfl (lv_at hl 1 rfl) ?_
  refine lv_iload_n cx.1 cx.2.1 dX12_stamp_7 rfl (lv_at hl 2 rfl) ?_
  refine z_ci cx hp (fun o' hx => zrunV (n := 3) (As := [.int (ii a1), .int (ii a2)]) (rest := []) cx hp (mX12_refuseTwo F l g B h a0 a1 a2 ra0 ra1 ra2 o' hx) 12 ra0 (by decide) rfl vw_X12_refuseTwo ml_X12_181 (by decide) rfl hl.1 rfl (Nat.le_of_ble_eq_true rfl) dX12_stamp_8) hf (fun r1 h H locs rr1 hp hf => ?_)
  refine lv_istore (lv' := [(6, .int (ii r1)), (0, .ref (B + a0)), (1, .int (ii a1)), (2, .int (ii a2)), (3, .int (ii a3)), (4, .int (ii a4)), (5, .int (ii a5))]) cx.1 cx.2.1 dX12_stamp_11 hl (by decide) rfl (fun ls hl => ?_)
  refine lv_iload cx.1 cx.2.1 dX12_stamp_13 (lv_at hl 0 rfl) ?_
  refine z_if_eq cx rr1 (tgt := 21) dX12_stamp_15 (by decide) hf (fun _ hf => ?_) (fun _ hf => ?_)
  · refine lv_aload_n cx.1 cx.2.1 dX12_stamp_21 rfl (lv_at hl 1 rfl) ?_
    refine lv_iload_n cx.1 cx.2.1 dX12_stamp_22 rfl (lv_at hl 2 rfl) ?_
    refine lv_iload_n cx.1 cx.2.1 dX12_stamp_23 rfl (lv_at hl 4 rfl) ?_
    refine z_ci cx hp (fun o' hx => zrunV (n := 3) (As := [.int (ii a1), .int (ii a3)]) (rest := []) cx hp (mX12_isElement F l g B h a0 a1 a3 ra0 ra1 ra3 o' hx) 12 ra0 (by decide) rfl vw_X12_isElement ml_X12_164 (by decide) rfl hl.1 rfl (Nat.le_of_ble_eq_true rfl) dX12_stamp_24) hf (fun r2 h H locs rr2 hp hf => ?_)
    refine z_jn hf (fun j => ∀  (h : HF) (H : Heap) (locs : List Loc) (ls : Array Slot), Hp g B s h H locs → lv_has ls 8 [] → j  h = some o → W p l e (rmn 3) s m args below meth c H locs 0 0 Q (F0 m 56 ls [])) ?_ (fun j56 hj56 hf => ?_)
    · intro  h H locs ls  hp hl hf
      refine z_bipush cx (by decide) dX12_stamp_56 ?_
      rw [hQ]; exact z_iret cx hp (by decide) dX12_stamp_58 hf
    refine z_if_eq cx rr2 (tgt := 56) dX12_stamp_27 (by decide) hf (fun _ hf => ?_) (fun _ hf => ?_)
    · exact hj56  h _ _ ls  hp (lv_sub hl [] rfl) hf
    · refine lv_aload_n cx.1 cx.2.1 dX12_stamp_30 rfl (lv_at hl 1 rfl) ?_
      refine lv_iload_n cx.1 cx.2.1 dX12_stamp_31 rfl (lv_at hl 2 rfl) ?_
      refine lv_iload cx.1 cx.2.1 dX12_stamp_32 (lv_at hl 5 rfl) ?_
      refine z_ci cx hp (fun o' hx => zrunV (n := 3) (As := [.int (ii a1), .int (ii a4)]) (rest := []) cx hp (mX12_isElement F l g B h a0 a1 a4 ra0 ra1 ra4 o' hx) 12 ra0 (by decide) rfl vw_X12_isElement ml_X12_164 (by decide) rfl hl.1 rfl (Nat.le_of_ble_eq_true rfl) dX12_stamp_34) hf (fun r3 h H locs rr3 hp hf => ?_)
      refine z_if_eq cx rr3 (tgt := 56) dX12_stamp_37 (by decide) hf (fun _ hf => ?_) (fun _ hf => ?_)
      · exact hj56  h _ _ ls  hp (lv_sub hl [] rfl) hf
      · refine lv_iload cx.1 cx.2.1 dX12_stamp_40 (lv_at hl 6 rfl) ?_
        refine z_if_lt cx ra5 (tgt := 56) dX12_stamp_42 (by decide) hf (fun _ hf => ?_) (fun _ hf => ?_)
        · exact hj56  h _ _ ls  hp (lv_sub hl [] rfl) hf
        · refine lv_iload cx.1 cx.2.1 dX12_stamp_45 (lv_at hl 6 rfl) ?_
          refine lv_aload_n cx.1 cx.2.1 dX12_stamp_47 rfl (lv_at hl 1 rfl) ?_
          refine z_gets cx hp (T := TX12) 12 6 (a0 + 3) rfl zin_12 (by decide) (by decide) ra0 rfl fl_X12_16 dX12_stamp_48 ?_
          refine lv_iload_n cx.1 cx.2.1 dX12_stamp_51 rfl (lv_at hl 2 rfl) ?_
          refine z_iald cx hp (zs_12_6 a0 (kt_lt ra0 (by decide)) ra0) ra1 dX12_stamp_52 hf (fun x4 rx4 hf => ?_)
          refine z_icmp_le cx ra5 rx4 (tgt := 59) dX12_stamp_53 (by decide) hf (fun _ hf => ?_) (fun _ hf => ?_)
          · exact hj56  h _ _ ls  hp (lv_sub hl [] rfl) hf
          · refine lv_aload_n cx.1 cx.2.1 dX12_stamp_59 rfl (lv_at hl 1 rfl) ?_
            refine lv_iload_n cx.1 cx.2.1 dX12_stamp_60 rfl (lv_at hl 2 rfl) ?_
            refine z_cv cx hp (fun o' hx => zrunV (n := 3) (As := [.int (ii a1)]) (rest := []) cx hp (mX12_keep F l g B h a0 a1 ra0 ra1 o' hx) 12 ra0 (by decide) rfl vw_X12_keep ml_X12_153 (by decide) rfl hl.1 rfl (Nat.le_of_ble_eq_true rfl) dX12_stamp_61) hf (fun _ h H locs hp hf => ?_)
            refine z_iconst cx dX12_stamp_64 ?_
            refine lv_istore (lv' := [(7, .int (ii 0)), (6, .int (ii r1)), (0, .ref (B + a0)), (1, .int (ii a1)), (2, .int (ii a2)), (3, .int (ii a3)), (4, .int (ii a4)), (5, .int (ii a5))]) cx.1 cx.2.1 dX12_stamp_65 hl (by decide) rfl (fun ls hl => ?_)
            refine z_jn hf (fun j => ∀  (h : HF) (H : Heap) (locs : List Loc) (ls : Array Slot), Hp g B s h H locs → lv_has ls 8 [(5, .int (ii a5))] → j  h = some o → W p l e (rmn 3) s m args below meth c H locs 0 0 Q (F0 m 104 ls [])) ?_ (fun j104 hj104 hf => ?_)
            · intro  h H locs ls  hp hl hf
              refine lv_iload cx.1 cx.2.1 dX12_stamp_104 (lv_at hl 0 rfl) ?_
              rw [hQ]; exact z_iret cx hp ra5 dX12_stamp_106 hf
            exact wX12_stamp_67 F cx a0 ra0 a1 ra1 a2 ra2 a3 ra3 a4 ra4 a5 ra5 j104 hj104 F 0 h _ _ ls (by decide) hp (lv_sub hl [2, 3, 4, 5, 6, 7, 0] rfl) hf
  · refine lv_iload cx.1 cx.2.1 dX12_stamp_18 (lv_at hl 0 rfl) ?_
    rw [hQ]; exact z_iret cx hp rr1 dX12_stamp_20 hf
theorem dX12_nextNames_0 : decode cX12_nextNames 0 = .ok (.iload_n 1, 1) := by decide +kernel
theorem dX12_nextNames_1 : decode cX12_nextNames 1 = .ok (.iconst 2, 1) := by decide +kernel
theorem dX12_nextNames_2 : decode cX12_nextNames 2 = .ok (.isub, 1) := by decide +kernel
theorem dX12_nextNames_3 : decode cX12_nextNames 3 = .ok (.istore_n 2, 1) := by decide +kernel
theorem dX12_nextNames_4 : decode cX12_nextNames 4 = .ok (.iload_n 2, 1) := by decide +kernel
theorem dX12_nextNames_5 : decode cX12_nextNames 5 = .ok (.ifCond .lt 26, 3) := by decide +kernel
theorem dX12_nextNames_8 : decode cX12_nextNames 8 = .ok (.aload_n 0, 1) := by decide +kernel
theorem dX12_nextNames_9 : decode cX12_nextNames 9 = .ok (.getfield 97, 3) := by decide +kernel
theorem dX12_nextNames_12 : decode cX12_nextNames 12 = .ok (.iload_n 2, 1) := by decide +kernel
theorem dX12_nextNames_13 : decode cX12_nextNames 13 = .ok (.iaload, 1) := by decide +kernel
theorem dX12_nextNames_14 : decode cX12_nextNames 14 = .ok (.aload_n 0, 1) := by decide +kernel
theorem dX12_nextNames_15 : decode cX12_nextNames 15 = .ok (.getfield 97, 3) := by decide +kernel
theorem dX12_nextNames_18 : decode cX12_nextNames 18 = .ok (.iload_n 2, 1) := by decide +kernel
theorem dX12_nextNames_19 : decode cX12_nextNames 19 = .ok (.iconst 1, 1) := by decide +kernel
theorem dX12_nextNames_20 : decode cX12_nextNames 20 = .ok (.iadd, 1) := by decide +kernel
theorem dX12_nextNames_21 : decode cX12_nextNames 21 = .ok (.iaload, 1) := by decide +kernel
theorem dX12_nextNames_22 : decode cX12_nextNames 22 = .ok (.if_icmp .le 9, 3) := by decide +kernel
theorem dX12_nextNames_25 : decode cX12_nextNames 25 = .ok (.iinc 2 (-1), 3) := by decide +kernel
theorem dX12_nextNames_28 : decode cX12_nextNames 28 = .ok (.goto (-24), 3) := by decide +kernel
theorem dX12_nextNames_31 : decode cX12_nextNames 31 = .ok (.iload_n 2, 1) := by decide +kernel
theorem dX12_nextNames_32 : decode cX12_nextNames 32 = .ok (.ifCond .ge 5, 3) := by decide +kernel
theorem dX12_nextNames_35 : decode cX12_nextNames 35 = .ok (.iconst 0, 1) := by decide +kernel
theorem dX12_nextNames_36 : decode cX12_nextNames 36 = .ok (.ireturn, 1) := by decide +kernel
theorem dX12_nextNames_37 : decode cX12_nextNames 37 = .ok (.iload_n 1, 1) := by decide +kernel
theorem dX12_nextNames_38 : decode cX12_nextNames 38 = .ok (.iconst 1, 1) := by decide +kernel
theorem dX12_nextNames_39 : decode cX12_nextNames 39 = .ok (.isub, 1) := by decide +kernel
theorem dX12_nextNames_40 : decode cX12_nextNames 40 = .ok (.istore_n 3, 1) := by decide +kernel
theorem dX12_nextNames_41 : decode cX12_nextNames 41 = .ok (.aload_n 0, 1) := by decide +kernel
theorem dX12_nextNames_42 : decode cX12_nextNames 42 = .ok (.getfield 97, 3) := by decide +kernel
theorem dX12_nextNames_45 : decode cX12_nextNames 45 = .ok (.iload_n 3, 1) := by decide +kernel
theorem dX12_nextNames_46 : decode cX12_nextNames 46 = .ok (.iaload, 1) := by decide +kernel
theorem dX12_nextNames_47 : decode cX12_nextNames 47 = .ok (.aload_n 0, 1) := by decide +kernel
theorem dX12_nextNames_48 : decode cX12_nextNames 48 = .ok (.getfield 97, 3) := by decide +kernel
theorem dX12_nextNames_51 : decode cX12_nextNames 51 = .ok (.iload_n 2, 1) := by decide +kernel
theorem dX12_nextNames_52 : decode cX12_nextNames 52 = .ok (.iaload, 1) := by decide +kernel
theorem dX12_nextNames_53 : decode cX12_nextNames 53 = .ok (.if_icmp .ge 9, 3) := by decide +kernel
theorem dX12_nextNames_56 : decode cX12_nextNames 56 = .ok (.iinc 3 (-1), 3) := by decide +kernel
theorem dX12_nextNames_59 : decode cX12_nextNames 59 = .ok (.goto (-18), 3) := by decide +kernel
theorem dX12_nextNames_62 : decode cX12_nextNames 62 = .ok (.aload_n 0, 1) := by decide +kernel
theorem dX12_nextNames_63 : decode cX12_nextNames 63 = .ok (.iload_n 2, 1) := by decide +kernel
theorem dX12_nextNames_64 : decode cX12_nextNames 64 = .ok (.iload_n 3, 1) := by decide +kernel
theorem dX12_nextNames_65 : decode cX12_nextNames 65 = .ok (.invokevirtual 368, 3) := by decide +kernel
theorem dX12_nextNames_68 : decode cX12_nextNames 68 = .ok (.iload_n 2, 1) := by decide +kernel
theorem dX12_nextNames_69 : decode cX12_nextNames 69 = .ok (.iconst 1, 1) := by decide +kernel
theorem dX12_nextNames_70 : decode cX12_nextNames 70 = .ok (.iadd, 1) := by decide +kernel
theorem dX12_nextNames_71 : decode cX12_nextNames 71 = .ok (.istore 4, 2) := by decide +kernel
theorem dX12_nextNames_73 : decode cX12_nextNames 73 = .ok (.iload_n 1, 1) := by decide +kernel
theorem dX12_nextNames_74 : decode cX12_nextNames 74 = .ok (.iconst 1, 1) := by decide +kernel
theorem dX12_nextNames_75 : decode cX12_nextNames 75 = .ok (.isub, 1) := by decide +kernel
theorem dX12_nextNames_76 : decode cX12_nextNames 76 = .ok (.istore 5, 2) := by decide +kernel
theorem dX12_nextNames_78 : decode cX12_nextNames 78 = .ok (.iload 4, 2) := by decide +kernel
theorem dX12_nextNames_80 : decode cX12_nextNames 80 = .ok (.iload 5, 2) := by decide +kernel
theorem dX12_nextNames_82 : decode cX12_nextNames 82 = .ok (.if_icmp .ge 20, 3) := by decide +kernel
theorem dX12_nextNames_85 : decode cX12_nextNames 85 = .ok (.aload_n 0, 1) := by decide +kernel
theorem dX12_nextNames_86 : decode cX12_nextNames 86 = .ok (.iload 4, 2) := by decide +kernel
theorem dX12_nextNames_88 : decode cX12_nextNames 88 = .ok (.iload 5, 2) := by decide +kernel
theorem dX12_nextNames_90 : decode cX12_nextNames 90 = .ok (.invokevirtual 368, 3) := by decide +kernel
theorem dX12_nextNames_93 : decode cX12_nextNames 93 = .ok (.iinc 4 1, 3) := by decide +kernel
theorem dX12_nextNames_96 : decode cX12_nextNames 96 = .ok (.iinc 5 (-1), 3) := by decide +kernel
theorem dX12_nextNames_99 : decode cX12_nextNames 99 = .ok (.goto (-21), 3) := by decide +kernel
theorem dX12_nextNames_102 : decode cX12_nextNames 102 = .ok (.iconst 1, 1) := by decide +kernel
theorem dX12_nextNames_103 : decode cX12_nextNames 103 = .ok (.ireturn, 1) := by decide +kernel
def LX12_nextNames_78 (F : Nat) (u0 : Nat) (k102 : HF → RO) : Nat → Int → Int → HF → RO
  | 0, _, _, _ => none
  | n + 1, v4, v5, h =>
    if v4 < v5 then (
      zbd (fX12_swap F u0 v4 v5 h) fun _ h =>
      zlet (wr (v4 + 1)) fun x7 =>
      zlet (wr (v5 + (-1))) fun x8 =>
      LX12_nextNames_78 F u0 k102 n x7 x8 h
    ) else (
      k102  h
    )
set_option maxHeartbeats 4000000 in
set_option maxRecDepth 100000 in
theorem wX12_nextNames_78 {p : Program} {l : Launch} {e : Env} {s : State} {m : MethodId} {args : Array Value} {below : List Frame} {meth : Method} {c : Code} {Q : State → Prop} {g : zG} {B : Nat} {o : Int × HF} (F : Nat) (cx : Cx p s m args meth c cX12_nextNames 6 RX12 (some .boolean) g B) (u0 : Nat) (ru0 : kt u0 = 15) (k102 : HF → RO) (hk102 : ∀  (h : HF) (H : Heap) (locs : List Loc) (ls : Array Slot), Hp g B s h H locs → lv_has ls 6 [] → k102  h = some o → W p l e (rmn 1) s m args below meth c H locs 0 0 Q (F0 m 102 ls [])) : ∀ (n : Nat) (v4 : Int) (v5 : Int) (h : HF) (H : Heap) (locs : List Loc) (ls : Array Slot), rng v4 → rng v5 → Hp g B s h H locs → lv_has ls 6 [(0, .ref (B + u0)), (4, .int (ii v4)), (5, .int (ii v5))] → LX12_nextNames_78 F u0 k102 n v4 v5 h = some o → W p l e (rmn 1) s m args below meth c H locs 0 0 Q (F0 m 78 ls []) := by
  intro n
  induction n with
  | zero =>
    intro v4 v5 h H locs ls rv4 rv5 hp hl hf
    cases hf
  | succ n ih =>
    intro v4 v5 h H locs ls rv4 rv5 hp hl hf
    rw [LX12_nextNames_78] at hf
    refine lv_iload cx.1 cx.2.1 dX12_nextNames_78 (lv_at hl 1 rfl) ?_
    refine lv_iload cx.1 cx.2.1 dX12_nextNames_80 (lv_at hl 2 rfl) ?_
    refine z_icmp_ge cx rv4 rv5 (tgt := 102) dX12_nextNames_82 (by decide) hf (fun _ hf => ?_) (fun _ hf => ?_)
    · refine lv_aload_n cx.1 cx.2.1 dX12_nextNames_85 rfl (lv_at hl 0 rfl) ?_
      refine lv_iload cx.1 cx.2.1 dX12_nextNames_86 (lv_at hl 1 rfl) ?_
      refine lv_iload cx.1 cx.2.1 dX12_nextNames_88 (lv_at hl 2 rfl) ?_
      refine z_cv cx hp (fun o' hx => zrunV (n := 1) (As := [.int (ii v4), .int (ii v5)]) (rest := []) cx hp (mX12_swap F l g B h u0 v4 v5 ru0 rv4 rv5 o' hx) 12 ru0 (by decide) rfl vw_X12_swap ml_X12_368 (by decide) rfl hl.1 rfl (Nat.le_of_ble_eq_true rfl) dX12_nextNames_90) hf (fun _ h H locs hp hf => ?_)
      refine z_iinc cx (fun x7 => [(4, .int (ii x7)), (0, .ref (B + u0)), (5, .int (ii v5))]) dX12_nextNames_93 hl (k := 1) rfl (by decide) (fun _ => rfl) hf (fun x7 rx7 hf ls hl => ?_)
      refine z_iinc cx (fun x8 => [(5, .int (ii x8)), (4, .int (ii x7)), (0, .ref (B + u0))]) dX12_nextNames_96 hl (k := 2) rfl (by decide) (fun _ => rfl) hf (fun x8 rx8 hf ls hl => ?_)
      refine lv_goto (tgt := 78) cx.1 cx.2.1 dX12_nextNames_99 (by decide) ?_
      exact ih x7 x8 h _ _ ls rx7 rx8 hp (lv_sub hl [2, 1, 0] rfl) hf
    · exact hk102  h _ _ ls  hp (lv_sub hl [] rfl) hf
def LX12_nextNames_41 (F : Nat) (u0 : Nat) (u1 : Int) (u2 : Int) (k62 : Int → Int → HF → RO) : Nat → Int → HF → RO
  | 0, _, _ => none
  | n + 1, v3, h =>
    zrd h (u0 + 30) v3 fun x9 =>
    zrd h (u0 + 30) u2 fun x10 =>
    if x9 < x10 then (
      zlet (wr (v3 + (-1))) fun x11 =>
      LX12_nextNames_41 F u0 u1 u2 k62 n x11 h
    ) else (
      k62 u2 v3 h
    )
set_option maxHeartbeats 4000000 in
set_option maxRecDepth 100000 in
theorem wX12_nextNames_41 {p : Program} {l : Launch} {e : Env} {s : State} {m : MethodId} {args : Array Value} {below : List Frame} {meth : Method} {c : Code} {Q : State → Prop} {g : zG} {B : Nat} {o : Int × HF} (F : Nat) (cx : Cx p s m args meth c cX12_nextNames 6 RX12 (some .boolean) g B) (u0 : Nat) (ru0 : kt u0 = 15) (u1 : Int) (ru1 : rng u1) (u2 : Int) (ru2 : rng u2) (k62 : Int → Int → HF → RO) (hk62 : ∀ (x2 : Int) (x3 : Int) (h : HF) (H : Heap) (locs : List Loc) (ls : Array Slot), rng x2 → rng x3 → Hp g B s h H locs → lv_has ls 6 [(0, .ref (B + u0)), (1, .int (ii u1)), (2, .int (ii x2)), (3, .int (ii x3))] → k62 x2 x3 h = some o → W p l e (rmn 1) s m args below meth c H locs 0 0 Q (F0 m 62 ls [])) : ∀ (n : Nat) (v3 : Int) (h : HF) (H : Heap) (locs : List Loc) (ls : Array Slot), rng v3 → Hp g B s h H locs → lv_has ls 6 [(0, .ref (B + u0)), (1, .int (ii u1)), (2, .int (ii u2)), (3, .int (ii v3))] → LX12_nextNames_41 F u0 u1 u2 k62 n v3 h = some o → W p l e (rmn 1) s m args below meth c H locs 0 0 Q (F0 m 41 ls []) := by
  intro n
  induction n with
  | zero =>
    intro v3 h H locs ls rv3 hp hl hf
    cases hf
  | succ n ih =>
    intro v3 h H locs ls rv3 hp hl hf
    rw [LX12_nextNames_41] at hf
    refine lv_aload_n cx.1 cx.2.1 dX12_nextNames_41 rfl (lv_at hl 0 rfl) ?_
    refine z_gets cx hp (T := TX12) 12 48 (u0 + 30) rfl zin_12 (by decide) (by decide) ru0 rfl fl_X12_97 dX12_nextNames_42 ?_
    refine lv_iload_n cx.1 cx.2.1 dX12_nextNames_45 rfl (lv_at hl 3 rfl) ?_
    refine z_iald cx hp (zs_12_48 u0 (kt_lt ru0 (by decide)) ru0) rv3 dX12_nextNames_46 hf (fun x9 rx9 hf => ?_)
    refine lv_aload_n cx.1 cx.2.1 dX12_nextNames_47 rfl (lv_at hl 0 rfl) ?_
    refine z_gets cx hp (T := TX12) 12 48 (u0 + 30) rfl zin_12 (by decide) (by decide) ru0 rfl fl_X12_97 dX12_nextNames_48 ?_
    refine lv_iload_n cx.1 cx.2.1 dX12_nextNames_51 rfl (lv_at hl 2 rfl) ?_
    refine z_iald cx hp (zs_12_48 u0 (kt_lt ru0 (by decide)) ru0) ru2 dX12_nextNames_52 hf (fun x10 rx10 hf => ?_)
    refine z_icmp_ge cx rx9 rx10 (tgt := 62) dX12_nextNames_53 (by decide) hf (fun _ hf => ?_) (fun _ hf => ?_)
    · refine z_iinc cx (fun x11 => [(3, .int (ii x11)), (0, .ref (B + u0)), (1, .int (ii u1)), (2, .int (ii u2))]) dX12_nextNames_56 hl (k := 3) rfl (by decide) (fun _ => rfl) hf (fun x11 rx11 hf ls hl => ?_)
      refine lv_goto (tgt := 41) cx.1 cx.2.1 dX12_nextNames_59 (by decide) ?_
      exact ih x11 h _ _ ls rx11 hp (lv_sub hl [1, 2, 3, 0] rfl) hf
    · exact hk62 u2 v3 h _ _ ls ru2 rv3 hp (lv_sub hl [0, 1, 2, 3] rfl) hf
def LX12_nextNames_4 (F : Nat) (u0 : Nat) (u1 : Int) (k31 : Int → HF → RO) : Nat → Int → HF → RO
  | 0, _, _ => none
  | n + 1, v2, h =>
    if v2 < 0 then (
      k31 v2 h
    ) else (
      zrd h (u0 + 30) v2 fun x12 =>
      zrd h (u0 + 30) (wr (v2 + 1)) fun x13 =>
      if x13 < x12 then (
        zlet (wr (v2 + (-1))) fun x14 =>
        LX12_nextNames_4 F u0 u1 k31 n x14 h
      ) else (
        k31 v2 h
      )
    )
set_option maxHeartbeats 4000000 in
set_option maxRecDepth 100000 in
theorem wX12_nextNames_4 {p : Program} {l : Launch} {e : Env} {s : State} {m : MethodId} {args : Array Value} {below : List Frame} {meth : Method} {c : Code} {Q : State → Prop} {g : zG} {B : Nat} {o : Int × HF} (F : Nat) (cx : Cx p s m args meth c cX12_nextNames 6 RX12 (some .boolean) g B) (u0 : Nat) (ru0 : kt u0 = 15) (u1 : Int) (ru1 : rng u1) (k31 : Int → HF → RO) (hk31 : ∀ (x2 : Int) (h : HF) (H : Heap) (locs : List Loc) (ls : Array Slot), rng x2 → Hp g B s h H locs → lv_has ls 6 [(0, .ref (B + u0)), (1, .int (ii u1)), (2, .int (ii x2))] → k31 x2 h = some o → W p l e (rmn 1) s m args below meth c H locs 0 0 Q (F0 m 31 ls [])) : ∀ (n : Nat) (v2 : Int) (h : HF) (H : Heap) (locs : List Loc) (ls : Array Slot), rng v2 → Hp g B s h H locs → lv_has ls 6 [(0, .ref (B + u0)), (1, .int (ii u1)), (2, .int (ii v2))] → LX12_nextNames_4 F u0 u1 k31 n v2 h = some o → W p l e (rmn 1) s m args below meth c H locs 0 0 Q (F0 m 4 ls []) := by
  intro n
  induction n with
  | zero =>
    intro v2 h H locs ls rv2 hp hl hf
    cases hf
  | succ n ih =>
    intro v2 h H locs ls rv2 hp hl hf
    rw [LX12_nextNames_4] at hf
    refine lv_iload_n cx.1 cx.2.1 dX12_nextNames_4 rfl (lv_at hl 2 rfl) ?_
    refine z_if_lt cx rv2 (tgt := 31) dX12_nextNames_5 (by decide) hf (fun _ hf => ?_) (fun _ hf => ?_)
    · exact hk31 v2 h _ _ ls rv2 hp (lv_sub hl [0, 1, 2] rfl) hf
    · refine lv_aload_n cx.1 cx.2.1 dX12_nextNames_8 rfl (lv_at hl 0 rfl) ?_
      refine z_gets cx hp (T := TX12) 12 48 (u0 + 30) rfl zin_12 (by decide) (by decide) ru0 rfl fl_X12_97 dX12_nextNames_9 ?_
      refine lv_iload_n cx.1 cx.2.1 dX12_nextNames_12 rfl (lv_at hl 2 rfl) ?_
      refine z_iald cx hp (zs_12_48 u0 (kt_lt ru0 (by decide)) ru0) rv2 dX12_nextNames_13 hf (fun x12 rx12 hf => ?_)
      refine lv_aload_n cx.1 cx.2.1 dX12_nextNames_14 rfl (lv_at hl 0 rfl) ?_
      refine z_gets cx hp (T := TX12) 12 48 (u0 + 30) rfl zin_12 (by decide) (by decide) ru0 rfl fl_X12_97 dX12_nextNames_15 ?_
      refine lv_iload_n cx.1 cx.2.1 dX12_nextNames_18 rfl (lv_at hl 2 rfl) ?_
      refine z_iconst cx dX12_nextNames_19 ?_
      refine z_iadd cx dX12_nextNames_20 ?_
      refine z_iald cx hp (zs_12_48 u0 (kt_lt ru0 (by decide)) ru0) (rng_wr _) dX12_nextNames_21 hf (fun x13 rx13 hf => ?_)
      refine z_icmp_le cx rx12 rx13 (tgt := 31) dX12_nextNames_22 (by decide) hf (fun _ hf => ?_) (fun _ hf => ?_)
      · refine z_iinc cx (fun x14 => [(2, .int (ii x14)), (0, .ref (B + u0)), (1, .int (ii u1))]) dX12_nextNames_25 hl (k := 2) rfl (by decide) (fun _ => rfl) hf (fun x14 rx14 hf ls hl => ?_)
        refine lv_goto (tgt := 4) cx.1 cx.2.1 dX12_nextNames_28 (by decide) ?_
        exact ih x14 h _ _ ls rx14 hp (lv_sub hl [1, 2, 0] rfl) hf
      · exact hk31 v2 h _ _ ls rv2 hp (lv_sub hl [0, 1, 2] rfl) hf
def fX12_nextNames (F : Nat) (a0 : Nat) (a1 : Int) (h : HF) : RO :=
  zlet (wr (a1 - 2)) fun x1 =>
  zjn (fun (x31_2 : Int) (h : HF) => (
    if x31_2 < 0 then (
      zrz 0 h
    ) else (
      zlet (wr (a1 - 1)) fun x2 =>
      zjn (fun (x62_2 : Int) (x62_3 : Int) (h : HF) => (
        zbd (fX12_swap F a0 x62_2 x62_3 h) fun _ h =>
        zlet (wr (x62_2 + 1)) fun x4 =>
        zlet (wr (a1 - 1)) fun x5 =>
        zjn (fun  (h : HF) => (
          zrz 1 h
        )) fun j102 =>
        LX12_nextNames_78 F a0 j102 F x4 x5 h
      )) fun j62 =>
      LX12_nextNames_41 F a0 a1 x31_2 j62 F x2 h
    )
  )) fun j31 =>
  LX12_nextNames_4 F a0 a1 j31 F x1 h
set_option maxHeartbeats 4000000 in
set_option maxRecDepth 100000 in
theorem mX12_nextNames (F : Nat) (l : Launch) (g : zG) (B : Nat) (h : HF) (a0 : Nat) (a1 : Int) (ra0 : kt a0 = 15) (ra1 : rng a1) : CTi l g B yX12_nextNames cX12_nextNames 6 (some .boolean) 1 [.ref (B + a0), .int (ii a1)] h (fX12_nextNames F a0 a1 h) := by
  refine z_enterI (by decide) rfl (Nat.le_of_ble_eq_true rfl) ?_
  intro p e s m args below meth c ls o Q cx hp hl hf hQ
  have hl : lv_has ls 6 [(0, .ref (B + a0)), (1, .int (ii a1))] := hl
  unfold fX12_nextNames at hf
  refine lv_iload_n cx.1 cx.2.1 dX12_nextNames_0 rfl (lv_at hl 1 rfl) ?_
  refine z_iconst cx dX12_nextNames_1 ?_
  refine z_isub cx dX12_nextNames_2 ?_
  refine z_let (rng_wr _) hf (fun x1 rx1 hf => ?_)
  refine lv_istore_n (lv' := [(2, .int (ii x1)), (0, .ref (B + a0)), (1, .int (ii a1))]) cx.1 cx.2.1 dX12_nextNames_3 rfl hl (by decide) rfl (fun ls hl => ?_)
  refine z_jn hf (fun j => ∀ (x31_2 : Int) (h : HF) (H : Heap) (locs : List Loc) (ls : Array Slot), rng x31_2 → Hp g B s h H locs → lv_has ls 6 [(0, .ref (B + a0)), (1, .int (ii a1)), (2, .int (ii x31_2))] → j x31_2 h = some o → W p l e (rmn 1) s m args below meth c H locs 0 0 Q (F0 m 31 ls [])) ?_ (fun j31 hj31 hf => ?_)
  · intro x31_2 h H locs ls rx31_2 hp hl hf
    refine lv_iload_n cx.1 cx.2.1 dX12_nextNames_31 rfl (lv_at hl 2 rfl) ?_
    refine z_if_ge cx rx31_2 (tgt := 37) dX12_nextNames_32 (by decide) hf (fun _ hf => ?_) (fun _ hf => ?_)
    · refine z_iconst cx dX12_nextNames_35 ?_
      rw [hQ]; exact z_zret cx hp dX12_nextNames_36 hf
    · refine lv_iload_n cx.1 cx.2.1 dX12_nextNames_37 rfl (lv_at hl 1 rfl) ?_
      refine z_iconst cx dX12_nextNames_38 ?_
      refine z_isub cx dX12_nextNames_39 ?_
      refine z_let (rng_wr _) hf (fun x2 rx2 hf => ?_)
      refine lv_istore_n (lv' := [(3, .int (ii x2)), (0, .ref (B + a0)), (1, .int (ii a1)), (2, .int (ii x31_2))]) cx.1 cx.2.1 dX12_nextNames_40 rfl hl (by decide) rfl (fun ls hl => ?_)
      refine z_jn hf (fun j => ∀ (x62_2 : Int) (x62_3 : Int) (h : HF) (H : Heap) (locs : List Loc) (ls : Array Slot), rng x62_2 → rng x62_3 → Hp g B s h H locs → lv_has ls 6 [(0, .ref (B + a0)), (1, .int (ii a1)), (2, .int (ii x62_2)), (3, .int (ii x62_3))] → j x62_2 x62_3 h = some o → W p l e (rmn 1) s m args below meth c H locs 0 0 Q (F0 m 62 ls [])) ?_ (fun j62 hj62 hf => ?_)
      · intro x62_2 x62_3 h H locs ls rx62_2 rx62_3 hp hl hf
        refine lv_aload_n cx.1 cx.2.1 dX12_nextNames_62 rfl (lv_at hl 0 rfl) ?_
        refine lv_iload_n cx.1 cx.2.1 dX12_nextNames_63 rfl (lv_at hl 2 rfl) ?_
        refine lv_iload_n cx.1 cx.2.1 dX12_nextNames_64 rfl (lv_at hl 3 rfl) ?_
        refine z_cv cx hp (fun o' hx => zrunV (n := 1) (As := [.int (ii x62_2), .int (ii x62_3)]) (rest := []) cx hp (mX12_swap F l g B h a0 x62_2 x62_3 ra0 rx62_2 rx62_3 o' hx) 12 ra0 (by decide) rfl vw_X12_swap ml_X12_368 (by decide) rfl hl.1 rfl (Nat.le_of_ble_eq_true rfl) dX12_nextNames_65) hf (fun _ h H locs hp hf => ?_)
        refine lv_iload_n cx.1 cx.2.1 dX12_nextNames_68 rfl (lv_at hl 2 rfl) ?_
        refine z_iconst cx dX12_nextNames_69 ?_
        refine z_iadd cx dX12_nextNames_70 ?_
        refine z_let (rng_wr _) hf (fun x4 rx4 hf => ?_)
        refine lv_istore (lv' := [(4, .int (ii x4)), (0, .ref (B + a0)), (1, .int (ii a1)), (2, .int (ii x62_2)), (3, .int (ii x62_3))]) cx.1 cx.2.1 dX12_nextNames_71 hl (by decide) rfl (fun ls hl => ?_)
        refine lv_iload_n cx.1 cx.2.1 dX12_nextNames_73 rfl (lv_at hl 2 rfl) ?_
        refine z_iconst cx dX12_nextNames_74 ?_
        refine z_isub cx dX12_nextNames_75 ?_
        refine z_let (rng_wr _) hf (fun x5 rx5 hf => ?_)
        refine lv_istore (lv' := [(5, .int (ii x5)), (4, .int (ii x4)), (0, .ref (B + a0)), (1, .int (ii a1)), (2, .int (ii x62_2)), (3, .int (ii x62_3))]) cx.1 cx.2.1 dX12_nextNames_76 hl (by decide) rfl (fun ls hl => ?_)
        refine z_jn hf (fun j => ∀  (h : HF) (H : Heap) (locs : List Loc) (ls : Array Slot), Hp g B s h H locs → lv_has ls 6 [] → j  h = some o → W p l e (rmn 1) s m args below meth c H locs 0 0 Q (F0 m 102 ls [])) ?_ (fun j102 hj102 hf => ?_)
        · intro  h H locs ls  hp hl hf
          refine z_iconst cx dX12_nextNames_102 ?_
          rw [hQ]; exact z_zret cx hp dX12_nextNames_103 hf
        exact wX12_nextNames_78 F cx a0 ra0 j102 hj102 F x4 x5 h _ _ ls rx4 rx5 hp (lv_sub hl [2, 1, 0] rfl) hf
      exact wX12_nextNames_41 F cx a0 ra0 a1 ra1 x31_2 rx31_2 j62 hj62 F x2 h _ _ ls rx2 hp (lv_sub hl [1, 2, 3, 0] rfl) hf
  exact wX12_nextNames_4 F cx a0 ra0 a1 ra1 j31 hj31 F x1 h _ _ ls rx1 hp (lv_sub hl [1, 2, 0] rfl) hf
theorem dX12_findLeast_0 : decode cX12_findLeast 0 = .ok (.aload_n 0, 1) := by decide +kernel
theorem dX12_findLeast_1 : decode cX12_findLeast 1 = .ok (.aload_n 0, 1) := by decide +kernel
theorem dX12_findLeast_2 : decode cX12_findLeast 2 = .ok (.getfield 16, 3) := by decide +kernel
theorem dX12_findLeast_5 : decode cX12_findLeast 5 = .ok (.iload_n 1, 1) := by decide +kernel
theorem dX12_findLeast_6 : decode cX12_findLeast 6 = .ok (.iaload, 1) := by decide +kernel
theorem dX12_findLeast_7 : decode cX12_findLeast 7 = .ok (.invokevirtual 371, 3) := by decide +kernel
theorem dX12_findLeast_10 : decode cX12_findLeast 10 = .ok (.aload_n 0, 1) := by decide +kernel
theorem dX12_findLeast_11 : decode cX12_findLeast 11 = .ok (.iload_n 1, 1) := by decide +kernel
theorem dX12_findLeast_12 : decode cX12_findLeast 12 = .ok (.aload_n 0, 1) := by decide +kernel
theorem dX12_findLeast_13 : decode cX12_findLeast 13 = .ok (.getfield 103, 3) := by decide +kernel
theorem dX12_findLeast_16 : decode cX12_findLeast 16 = .ok (.invokevirtual 374, 3) := by decide +kernel
theorem dX12_findLeast_19 : decode cX12_findLeast 19 = .ok (.aload_n 0, 1) := by decide +kernel
theorem dX12_findLeast_20 : decode cX12_findLeast 20 = .ok (.aload_n 0, 1) := by decide +kernel
theorem dX12_findLeast_21 : decode cX12_findLeast 21 = .ok (.getfield 16, 3) := by decide +kernel
theorem dX12_findLeast_24 : decode cX12_findLeast 24 = .ok (.iload_n 1, 1) := by decide +kernel
theorem dX12_findLeast_25 : decode cX12_findLeast 25 = .ok (.iaload, 1) := by decide +kernel
theorem dX12_findLeast_26 : decode cX12_findLeast 26 = .ok (.invokevirtual 378, 3) := by decide +kernel
theorem dX12_findLeast_29 : decode cX12_findLeast 29 = .ok (.ifCond .eq 27, 3) := by decide +kernel
theorem dX12_findLeast_32 : decode cX12_findLeast 32 = .ok (.aload_n 0, 1) := by decide +kernel
theorem dX12_findLeast_33 : decode cX12_findLeast 33 = .ok (.iload_n 1, 1) := by decide +kernel
theorem dX12_findLeast_34 : decode cX12_findLeast 34 = .ok (.aload_n 0, 1) := by decide +kernel
theorem dX12_findLeast_35 : decode cX12_findLeast 35 = .ok (.getfield 103, 3) := by decide +kernel
theorem dX12_findLeast_38 : decode cX12_findLeast 38 = .ok (.invokevirtual 381, 3) := by decide +kernel
theorem dX12_findLeast_41 : decode cX12_findLeast 41 = .ok (.ifCond .ge (-22), 3) := by decide +kernel
theorem dX12_findLeast_44 : decode cX12_findLeast 44 = .ok (.aload_n 0, 1) := by decide +kernel
theorem dX12_findLeast_45 : decode cX12_findLeast 45 = .ok (.iload_n 1, 1) := by decide +kernel
theorem dX12_findLeast_46 : decode cX12_findLeast 46 = .ok (.aload_n 0, 1) := by decide +kernel
theorem dX12_findLeast_47 : decode cX12_findLeast 47 = .ok (.getfield 103, 3) := by decide +kernel
theorem dX12_findLeast_50 : decode cX12_findLeast 50 = .ok (.invokevirtual 374, 3) := by decide +kernel
theorem dX12_findLeast_53 : decode cX12_findLeast 53 = .ok (.goto (-34), 3) := by decide +kernel
theorem dX12_findLeast_56 : decode cX12_findLeast 56 = .ok (.return_, 1) := by decide +kernel
def LX12_findLeast_19 (F : Nat) (u0 : Nat) (u1 : Int) (k56 : HF → RO) : Nat → HF → RO
  | 0, _ => none
  | n + 1, h =>
    zrd h (u0 + 3) u1 fun x4 =>
    zbd (fX12_nextNames F u0 x4 h) fun r5 h =>
    if r5 = 0 then (
      k56  h
    ) else (
      zbd (fX12_compare F u0 u1 (u0 + 32) h) fun r6 h =>
      if r6 < 0 then (
        zbd (fX12_lay F u0 u1 (u0 + 32) h) fun _ h =>
        LX12_findLeast_19 F u0 u1 k56 n  h
      ) else (
        LX12_findLeast_19 F u0 u1 k56 n  h
      )
    )
set_option maxHeartbeats 4000000 in
set_option maxRecDepth 100000 in
theorem wX12_findLeast_19 {p : Program} {l : Launch} {e : Env} {s : State} {m : MethodId} {args : Array Value} {below : List Frame} {meth : Method} {c : Code} {Q : State → Prop} {g : zG} {B : Nat} {o : Int × HF} (F : Nat) (cx : Cx p s m args meth c cX12_findLeast 2 RX12 none g B) (u0 : Nat) (ru0 : kt u0 = 15) (u1 : Int) (ru1 : rng u1) (k56 : HF → RO) (hk56 : ∀  (h : HF) (H : Heap) (locs : List Loc) (ls : Array Slot), Hp g B s h H locs → lv_has ls 2 [] → k56  h = some o → W p l e (rmn 4) s m args below meth c H locs 0 0 Q (F0 m 56 ls [])) : ∀ (n : Nat)  (h : HF) (H : Heap) (locs : List Loc) (ls : Array Slot), Hp g B s h H locs → lv_has ls 2 [(0, .ref (B + u0)), (1, .int (ii u1))] → LX12_findLeast_19 F u0 u1 k56 n  h = some o → W p l e (rmn 4) s m args below meth c H locs 0 0 Q (F0 m 19 ls []) := by
  intro n
  induction n with
  | zero =>
    intro  h H locs ls  hp hl hf
    cases hf
  | succ n ih =>
    intro  h H locs ls  hp hl hf
    rw [LX12_findLeast_19] at hf
    refine lv_aload_n cx.1 cx.2.1 dX12_findLeast_19 rfl (lv_at hl 0 rfl) ?_
    refine lv_aload_n cx.1 cx.2.1 dX12_findLeast_20 rfl (lv_at hl 0 rfl) ?_
    refine z_gets cx hp (T := TX12) 12 6 (u0 + 3) rfl zin_12 (by decide) (by decide) ru0 rfl fl_X12_16 dX12_findLeast_21 ?_
    refine lv_iload_n cx.1 cx.2.1 dX12_findLeast_24 rfl (lv_at hl 1 rfl) ?_
    refine z_iald cx hp (zs_12_6 u0 (kt_lt ru0 (by decide)) ru0) ru1 dX12_findLeast_25 hf (fun x4 rx4 hf => ?_)
    refine z_ci cx hp (fun o' hx => zrunV (n := 4) (As := [.int (ii x4)]) (rest := []) cx hp (mX12_nextNames F l g B h u0 x4 ru0 rx4 o' hx) 12 ru0 (by decide) rfl vw_X12_nextNames ml_X12_378 (by decide) rfl hl.1 rfl (Nat.le_of_ble_eq_true rfl) dX12_findLeast_26) hf (fun r5 h H locs rr5 hp hf => ?_)
    refine z_if_eq cx rr5 (tgt := 56) dX12_findLeast_29 (by decide) hf (fun _ hf => ?_) (fun _ hf => ?_)
    · exact hk56  h _ _ ls  hp (lv_sub hl [] rfl) hf
    · refine lv_aload_n cx.1 cx.2.1 dX12_findLeast_32 rfl (lv_at hl 0 rfl) ?_
      refine lv_iload_n cx.1 cx.2.1 dX12_findLeast_33 rfl (lv_at hl 1 rfl) ?_
      refine lv_aload_n cx.1 cx.2.1 dX12_findLeast_34 rfl (lv_at hl 0 rfl) ?_
      refine z_gets cx hp (T := TX12) 12 50 (u0 + 32) rfl zin_12 (by decide) (by decide) ru0 rfl fl_X12_103 dX12_findLeast_35 ?_
      refine z_ci cx hp (fun o' hx => zrunV (n := 4) (As := [.int (ii u1), .ref (B + (u0 + 32))]) (rest := []) cx hp (mX12_compare F l g B h u0 u1 (u0 + 32) ru0 ru1 (zs_12_50 u0 (kt_lt ru0 (by decide)) ru0) o' hx) 12 ru0 (by decide) rfl vw_X12_compare ml_X12_381 (by decide) rfl hl.1 rfl (Nat.le_of_ble_eq_true rfl) dX12_findLeast_38) hf (fun r6 h H locs rr6 hp hf => ?_)
      refine z_if_ge cx rr6 (tgt := 19) dX12_findLeast_41 (by decide) hf (fun _ hf => ?_) (fun _ hf => ?_)
      · refine lv_aload_n cx.1 cx.2.1 dX12_findLeast_44 rfl (lv_at hl 0 rfl) ?_
        refine lv_iload_n cx.1 cx.2.1 dX12_findLeast_45 rfl (lv_at hl 1 rfl) ?_
        refine lv_aload_n cx.1 cx.2.1 dX12_findLeast_46 rfl (lv_at hl 0 rfl) ?_
        refine z_gets cx hp (T := TX12) 12 50 (u0 + 32) rfl zin_12 (by decide) (by decide) ru0 rfl fl_X12_103 dX12_findLeast_47 ?_
        refine z_cv cx hp (fun o' hx => zrunV (n := 4) (As := [.int (ii u1), .ref (B + (u0 + 32))]) (rest := []) cx hp (mX12_lay F l g B h u0 u1 (u0 + 32) ru0 ru1 (zs_12_50 u0 (kt_lt ru0 (by decide)) ru0) o' hx) 12 ru0 (by decide) rfl vw_X12_lay ml_X12_374 (by decide) rfl hl.1 rfl (Nat.le_of_ble_eq_true rfl) dX12_findLeast_50) hf (fun _ h H locs hp hf => ?_)
        refine lv_goto (tgt := 19) cx.1 cx.2.1 dX12_findLeast_53 (by decide) ?_
        exact ih  h _ _ ls  hp (lv_sub hl [0, 1] rfl) hf
      · exact ih  h _ _ ls  hp (lv_sub hl [0, 1] rfl) hf
def fX12_findLeast (F : Nat) (a0 : Nat) (a1 : Int) (h : HF) : RO :=
  zrd h (a0 + 3) a1 fun x1 =>
  zbd (fX12_firstNames F a0 x1 h) fun _ h =>
  zbd (fX12_lay F a0 a1 (a0 + 32) h) fun _ h =>
  zjn (fun  (h : HF) => (
    some (0, h)
  )) fun j56 =>
  LX12_findLeast_19 F a0 a1 j56 F  h
set_option maxHeartbeats 4000000 in
set_option maxRecDepth 100000 in
theorem mX12_findLeast (F : Nat) (l : Launch) (g : zG) (B : Nat) (h : HF) (a0 : Nat) (a1 : Int) (ra0 : kt a0 = 15) (ra1 : rng a1) : CTv l g B yX12_findLeast cX12_findLeast 2 4 [.ref (B + a0), .int (ii a1)] h (fX12_findLeast F a0 a1 h) := by
  refine z_enterV (by decide) rfl (Nat.le_of_ble_eq_true rfl) ?_
  intro p e s m args below meth c ls o Q cx hp hl hf hQ
  have hl : lv_has ls 2 [(0, .ref (B + a0)), (1, .int (ii a1))] := hl
  unfold fX12_findLeast at hf
  refine lv_aload_n cx.1 cx.2.1 dX12_findLeast_0 rfl (lv_at hl 0 rfl) ?_
  refine lv_aload_n cx.1 cx.2.1 dX12_findLeast_1 rfl (lv_at hl 0 rfl) ?_
  refine z_gets cx hp (T := TX12) 12 6 (a0 + 3) rfl zin_12 (by decide) (by decide) ra0 rfl fl_X12_16 dX12_findLeast_2 ?_
  refine lv_iload_n cx.1 cx.2.1 dX12_findLeast_5 rfl (lv_at hl 1 rfl) ?_
  refine z_iald cx hp (zs_12_6 a0 (kt_lt ra0 (by decide)) ra0) ra1 dX12_findLeast_6 hf (fun x1 rx1 hf => ?_)
  refine z_cv cx hp (fun o' hx => zrunV (n := 4) (As := [.int (ii x1)]) (rest := []) cx hp (mX12_firstNames F l g B h a0 x1 ra0 rx1 o' hx) 12 ra0 (by decide) rfl vw_X12_firstNames ml_X12_371 (by decide) rfl hl.1 rfl (Nat.le_of_ble_eq_true rfl) dX12_findLeast_7) hf (fun _ h H locs hp hf => ?_)
  refine lv_aload_n cx.1 cx.2.1 dX12_findLeast_10 rfl (lv_at hl 0 rfl) ?_
  refine lv_iload_n cx.1 cx.2.1 dX12_findLeast_11 rfl (lv_at hl 1 rfl) ?_
  refine lv_aload_n cx.1 cx.2.1 dX12_findLeast_12 rfl (lv_at hl 0 rfl) ?_
  refine z_gets cx hp (T := TX12) 12 50 (a0 + 32) rfl zin_12 (by decide) (by decide) ra0 rfl fl_X12_103 dX12_findLeast_13 ?_
  refine z_cv cx hp (fun o' hx => zrunV (n := 4) (As := [.int (ii a1), .ref (B + (a0 + 32))]) (rest := []) cx hp (mX12_lay F l g B h a0 a1 (a0 + 32) ra0 ra1 (zs_12_50 a0 (kt_lt ra0 (by decide)) ra0) o' hx) 12 ra0 (by decide) rfl vw_X12_lay ml_X12_374 (by decide) rfl hl.1 rfl (Nat.le_of_ble_eq_true rfl) dX12_findLeast_16) hf (fun _ h H locs hp hf => ?_)
  refine z_jn hf (fun j => ∀  (h : HF) (H : Heap) (locs : List Loc) (ls : Array Slot), Hp g B s h H locs → lv_has ls 2 [] → j  h = some o → W p l e (rmn 4) s m args below meth c H locs 0 0 Q (F0 m 56 ls [])) ?_ (fun j56 hj56 hf => ?_)
  · intro  h H locs ls  hp hl hf
    rw [hQ]; exact z_vret cx hp dX12_findLeast_56 hf
  exact wX12_findLeast_19 F cx a0 ra0 a1 ra1 j56 hj56 F  h _ _ ls  hp (lv_sub hl [0, 1] rfl) hf
theorem dX12_isLeast_0 : decode cX12_isLeast 0 = .ok (.aload_n 0, 1) := by decide +kernel
theorem dX12_isLeast_1 : decode cX12_isLeast 1 = .ok (.aload_n 0, 1) := by decide +kernel
theorem dX12_isLeast_2 : decode cX12_isLeast 2 = .ok (.getfield 16, 3) := by decide +kernel
theorem dX12_isLeast_5 : decode cX12_isLeast 5 = .ok (.iload_n 1, 1) := by decide +kernel
theorem dX12_isLeast_6 : decode cX12_isLeast 6 = .ok (.iaload, 1) := by decide +kernel
theorem dX12_isLeast_7 : decode cX12_isLeast 7 = .ok (.invokevirtual 371, 3) := by decide +kernel
theorem dX12_isLeast_10 : decode cX12_isLeast 10 = .ok (.aload_n 0, 1) := by decide +kernel
theorem dX12_isLeast_11 : decode cX12_isLeast 11 = .ok (.iload_n 1, 1) := by decide +kernel
theorem dX12_isLeast_12 : decode cX12_isLeast 12 = .ok (.aload_n 0, 1) := by decide +kernel
theorem dX12_isLeast_13 : decode cX12_isLeast 13 = .ok (.getfield 106, 3) := by decide +kernel
theorem dX12_isLeast_16 : decode cX12_isLeast 16 = .ok (.invokevirtual 374, 3) := by decide +kernel
theorem dX12_isLeast_19 : decode cX12_isLeast 19 = .ok (.aload_n 0, 1) := by decide +kernel
theorem dX12_isLeast_20 : decode cX12_isLeast 20 = .ok (.aload_n 0, 1) := by decide +kernel
theorem dX12_isLeast_21 : decode cX12_isLeast 21 = .ok (.getfield 16, 3) := by decide +kernel
theorem dX12_isLeast_24 : decode cX12_isLeast 24 = .ok (.iload_n 1, 1) := by decide +kernel
theorem dX12_isLeast_25 : decode cX12_isLeast 25 = .ok (.iaload, 1) := by decide +kernel
theorem dX12_isLeast_26 : decode cX12_isLeast 26 = .ok (.invokevirtual 378, 3) := by decide +kernel
theorem dX12_isLeast_29 : decode cX12_isLeast 29 = .ok (.ifCond .eq 17, 3) := by decide +kernel
theorem dX12_isLeast_32 : decode cX12_isLeast 32 = .ok (.aload_n 0, 1) := by decide +kernel
theorem dX12_isLeast_33 : decode cX12_isLeast 33 = .ok (.iload_n 1, 1) := by decide +kernel
theorem dX12_isLeast_34 : decode cX12_isLeast 34 = .ok (.aload_n 0, 1) := by decide +kernel
theorem dX12_isLeast_35 : decode cX12_isLeast 35 = .ok (.getfield 106, 3) := by decide +kernel
theorem dX12_isLeast_38 : decode cX12_isLeast 38 = .ok (.invokevirtual 381, 3) := by decide +kernel
theorem dX12_isLeast_41 : decode cX12_isLeast 41 = .ok (.ifCond .ge (-22), 3) := by decide +kernel
theorem dX12_isLeast_44 : decode cX12_isLeast 44 = .ok (.iconst 0, 1) := by decide +kernel
theorem dX12_isLeast_45 : decode cX12_isLeast 45 = .ok (.ireturn, 1) := by decide +kernel
theorem dX12_isLeast_46 : decode cX12_isLeast 46 = .ok (.iconst 1, 1) := by decide +kernel
theorem dX12_isLeast_47 : decode cX12_isLeast 47 = .ok (.ireturn, 1) := by decide +kernel
def LX12_isLeast_19 (F : Nat) (u0 : Nat) (u1 : Int) (k46 : HF → RO) (k44 : HF → RO) : Nat → HF → RO
  | 0, _ => none
  | n + 1, h =>
    zrd h (u0 + 3) u1 fun x4 =>
    zbd (fX12_nextNames F u0 x4 h) fun r5 h =>
    if r5 = 0 then (
      k46  h
    ) else (
      zbd (fX12_compare F u0 u1 (u0 + 33) h) fun r6 h =>
      if r6 < 0 then (
        k44  h
      ) else (
        LX12_isLeast_19 F u0 u1 k46 k44 n  h
      )
    )
set_option maxHeartbeats 4000000 in
set_option maxRecDepth 100000 in
theorem wX12_isLeast_19 {p : Program} {l : Launch} {e : Env} {s : State} {m : MethodId} {args : Array Value} {below : List Frame} {meth : Method} {c : Code} {Q : State → Prop} {g : zG} {B : Nat} {o : Int × HF} (F : Nat) (cx : Cx p s m args meth c cX12_isLeast 2 RX12 (some .boolean) g B) (u0 : Nat) (ru0 : kt u0 = 15) (u1 : Int) (ru1 : rng u1) (k46 : HF → RO) (hk46 : ∀  (h : HF) (H : Heap) (locs : List Loc) (ls : Array Slot), Hp g B s h H locs → lv_has ls 2 [] → k46  h = some o → W p l e (rmn 4) s m args below meth c H locs 0 0 Q (F0 m 46 ls [])) (k44 : HF → RO) (hk44 : ∀  (h : HF) (H : Heap) (locs : List Loc) (ls : Array Slot), Hp g B s h H locs → lv_has ls 2 [] → k44  h = some o → W p l e (rmn 4) s m args below meth c H locs 0 0 Q (F0 m 44 ls [])) : ∀ (n : Nat)  (h : HF) (H : Heap) (locs : List Loc) (ls : Array Slot), Hp g B s h H locs → lv_has ls 2 [(0, .ref (B + u0)), (1, .int (ii u1))] → LX12_isLeast_19 F u0 u1 k46 k44 n  h = some o → W p l e (rmn 4) s m args below meth c H locs 0 0 Q (F0 m 19 ls []) := by
  intro n
  induction n with
  | zero =>
    intro  h H locs ls  hp hl hf
    cases hf
  | succ n ih =>
    intro  h H locs ls  hp hl hf
    rw [LX12_isLeast_19] at hf
    refine lv_aload_n cx.1 cx.2.1 dX12_isLeast_19 rfl (lv_at hl 0 rfl) ?_
    refine lv_aload_n cx.1 cx.2.1 dX12_isLeast_20 rfl (lv_at hl 0 rfl) ?_
    refine z_gets cx hp (T := TX12) 12 6 (u0 + 3) rfl zin_12 (by decide) (by decide) ru0 rfl fl_X12_16 dX12_isLeast_21 ?_
    refine lv_iload_n cx.1 cx.2.1 dX12_isLeast_24 rfl (lv_at hl 1 rfl) ?_
    refine z_iald cx hp (zs_12_6 u0 (kt_lt ru0 (by decide)) ru0) ru1 dX12_isLeast_25 hf (fun x4 rx4 hf => ?_)
    refine z_ci cx hp (fun o' hx => zrunV (n := 4) (As := [.int (ii x4)]) (rest := []) cx hp (mX12_nextNames F l g B h u0 x4 ru0 rx4 o' hx) 12 ru0 (by decide) rfl vw_X12_nextNames ml_X12_378 (by decide) rfl hl.1 rfl (Nat.le_of_ble_eq_true rfl) dX12_isLeast_26) hf (fun r5 h H locs rr5 hp hf => ?_)
    refine z_if_eq cx rr5 (tgt := 46) dX12_isLeast_29 (by decide) hf (fun _ hf => ?_) (fun _ hf => ?_)
    · exact hk46  h _ _ ls  hp (lv_sub hl [] rfl) hf
    · refine lv_aload_n cx.1 cx.2.1 dX12_isLeast_32 rfl (lv_at hl 0 rfl) ?_
      refine lv_iload_n cx.1 cx.2.1 dX12_isLeast_33 rfl (lv_at hl 1 rfl) ?_
      refine lv_aload_n cx.1 cx.2.1 dX12_isLeast_34 rfl (lv_at hl 0 rfl) ?_
      refine z_gets cx hp (T := TX12) 12 51 (u0 + 33) rfl zin_12 (by decide) (by decide) ru0 rfl fl_X12_106 dX12_isLeast_35 ?_
      refine z_ci cx hp (fun o' hx => zrunV (n := 4) (As := [.int (ii u1), .ref (B + (u0 + 33))]) (rest := []) cx hp (mX12_compare F l g B h u0 u1 (u0 + 33) ru0 ru1 (zs_12_51 u0 (kt_lt ru0 (by decide)) ru0) o' hx) 12 ru0 (by decide) rfl vw_X12_compare ml_X12_381 (by decide) rfl hl.1 rfl (Nat.le_of_ble_eq_true rfl) dX12_isLeast_38) hf (fun r6 h H locs rr6 hp hf => ?_)
      refine z_if_ge cx rr6 (tgt := 19) dX12_isLeast_41 (by decide) hf (fun _ hf => ?_) (fun _ hf => ?_)
      · exact hk44  h _ _ ls  hp (lv_sub hl [] rfl) hf
      · exact ih  h _ _ ls  hp (lv_sub hl [0, 1] rfl) hf
def fX12_isLeast (F : Nat) (a0 : Nat) (a1 : Int) (h : HF) : RO :=
  zrd h (a0 + 3) a1 fun x1 =>
  zbd (fX12_firstNames F a0 x1 h) fun _ h =>
  zbd (fX12_lay F a0 a1 (a0 + 33) h) fun _ h =>
  zjn (fun  (h : HF) => (
    zrz 1 h
  )) fun j46 =>
  zjn (fun  (h : HF) => (
    zrz 0 h
  )) fun j44 =>
  LX12_isLeast_19 F a0 a1 j46 j44 F  h
set_option maxHeartbeats 4000000 in
set_option maxRecDepth 100000 in
theorem mX12_isLeast (F : Nat) (l : Launch) (g : zG) (B : Nat) (h : HF) (a0 : Nat) (a1 : Int) (ra0 : kt a0 = 15) (ra1 : rng a1) : CTi l g B yX12_isLeast cX12_isLeast 2 (some .boolean) 4 [.ref (B + a0), .int (ii a1)] h (fX12_isLeast F a0 a1 h) := by
  refine z_enterI (by decide) rfl (Nat.le_of_ble_eq_true rfl) ?_
  intro p e s m args below meth c ls o Q cx hp hl hf hQ
  have hl : lv_has ls 2 [(0, .ref (B + a0)), (1, .int (ii a1))] := hl
  unfold fX12_isLeast at hf
  refine lv_aload_n cx.1 cx.2.1 dX12_isLeast_0 rfl (lv_at hl 0 rfl) ?_
  refine lv_aload_n cx.1 cx.2.1 dX12_isLeast_1 rfl (lv_at hl 0 rfl) ?_
  refine z_gets cx hp (T := TX12) 12 6 (a0 + 3) rfl zin_12 (by decide) (by decide) ra0 rfl fl_X12_16 dX12_isLeast_2 ?_
  refine lv_iload_n cx.1 cx.2.1 dX12_isLeast_5 rfl (lv_at hl 1 rfl) ?_
  refine z_iald cx hp (zs_12_6 a0 (kt_lt ra0 (by decide)) ra0) ra1 dX12_isLeast_6 hf (fun x1 rx1 hf => ?_)
  refine z_cv cx hp (fun o' hx => zrunV (n := 4) (As := [.int (ii x1)]) (rest := []) cx hp (mX12_firstNames F l g B h a0 x1 ra0 rx1 o' hx) 12 ra0 (by decide) rfl vw_X12_firstNames ml_X12_371 (by decide) rfl hl.1 rfl (Nat.le_of_ble_eq_true rfl) dX12_isLeast_7) hf (fun _ h H locs hp hf => ?_)
  refine lv_aload_n cx.1 cx.2.1 dX12_isLeast_10 rfl (lv_at hl 0 rfl) ?_
  refine lv_iload_n cx.1 cx.2.1 dX12_isLeast_11 rfl (lv_at hl 1 rfl) ?_
  refine lv_aload_n cx.1 cx.2.1 dX12_isLeast_12 rfl (lv_at hl 0 rfl) ?_
  refine z_gets cx hp (T := TX12) 12 51 (a0 + 33) rfl zin_12 (by decide) (by decide) ra0 rfl fl_X12_106 dX12_isLeast_13 ?_
  refine z_cv cx hp (fun o' hx => zrunV (n := 4) (As := [.int (ii a1), .ref (B + (a0 + 33))]) (rest := []) cx hp (mX12_lay F l g B h a0 a1 (a0 + 33) ra0 ra1 (zs_12_51 a0 (kt_lt ra0 (by decide)) ra0) o' hx) 12 ra0 (by decide) rfl vw_X12_lay ml_X12_374 (by decide) rfl hl.1 rfl (Nat.le_of_ble_eq_true rfl) dX12_isLeast_16) hf (fun _ h H locs hp hf => ?_)
  refine z_jn hf (fun j => ∀  (h : HF) (H : Heap) (locs : List Loc) (ls : Array Slot), Hp g B s h H locs → lv_has ls 2 [] → j  h = some o → W p l e (rmn 4) s m args below meth c H locs 0 0 Q (F0 m 46 ls [])) ?_ (fun j46 hj46 hf => ?_)
  · intro  h H locs ls  hp hl hf
    refine z_iconst cx dX12_isLeast_46 ?_
    rw [hQ]; exact z_zret cx hp dX12_isLeast_47 hf
  refine z_jn hf (fun j => ∀  (h : HF) (H : Heap) (locs : List Loc) (ls : Array Slot), Hp g B s h H locs → lv_has ls 2 [] → j  h = some o → W p l e (rmn 4) s m args below meth c H locs 0 0 Q (F0 m 44 ls [])) ?_ (fun j44 hj44 hf => ?_)
  · intro  h H locs ls  hp hl hf
    refine z_iconst cx dX12_isLeast_44 ?_
    rw [hQ]; exact z_zret cx hp dX12_isLeast_45 hf
  exact wX12_isLeast_19 F cx a0 ra0 a1 ra1 j46 hj46 j44 hj44 F  h _ _ ls  hp (lv_sub hl [0, 1] rfl) hf
theorem dX12_least_0 : decode cX12_least 0 = .ok (.aload_n 0, 1) := by decide +kernel
theorem dX12_least_1 : decode cX12_least 1 = .ok (.iconst 0, 1) := by decide +kernel
theorem dX12_least_2 : decode cX12_least 2 = .ok (.putfield 115, 3) := by decide +kernel
theorem dX12_least_5 : decode cX12_least 5 = .ok (.aload_n 0, 1) := by decide +kernel
theorem dX12_least_6 : decode cX12_least 6 = .ok (.iload_n 1, 1) := by decide +kernel
theorem dX12_least_7 : decode cX12_least 7 = .ok (.invokevirtual 146, 3) := by decide +kernel
theorem dX12_least_10 : decode cX12_least 10 = .ok (.ifCond .eq 11, 3) := by decide +kernel
theorem dX12_least_13 : decode cX12_least 13 = .ok (.aload_n 0, 1) := by decide +kernel
theorem dX12_least_14 : decode cX12_least 14 = .ok (.iload_n 2, 1) := by decide +kernel
theorem dX12_least_15 : decode cX12_least 15 = .ok (.invokevirtual 146, 3) := by decide +kernel
theorem dX12_least_18 : decode cX12_least 18 = .ok (.ifCond .ne 6, 3) := by decide +kernel
theorem dX12_least_24 : decode cX12_least 24 = .ok (.aload_n 0, 1) := by decide +kernel
theorem dX12_least_25 : decode cX12_least 25 = .ok (.getfield 16, 3) := by decide +kernel
theorem dX12_least_28 : decode cX12_least 28 = .ok (.iload_n 1, 1) := by decide +kernel
theorem dX12_least_29 : decode cX12_least 29 = .ok (.iaload, 1) := by decide +kernel
theorem dX12_least_30 : decode cX12_least 30 = .ok (.ifCond .ne 6, 3) := by decide +kernel
theorem dX12_least_33 : decode cX12_least 33 = .ok (.bipush (-2), 2) := by decide +kernel
theorem dX12_least_35 : decode cX12_least 35 = .ok (.ireturn, 1) := by decide +kernel
theorem dX12_least_36 : decode cX12_least 36 = .ok (.aload_n 0, 1) := by decide +kernel
theorem dX12_least_37 : decode cX12_least 37 = .ok (.iload_n 1, 1) := by decide +kernel
theorem dX12_least_38 : decode cX12_least 38 = .ok (.bipush 8, 2) := by decide +kernel
theorem dX12_least_40 : decode cX12_least 40 = .ok (.invokevirtual 202, 3) := by decide +kernel
theorem dX12_least_43 : decode cX12_least 43 = .ok (.aload_n 0, 1) := by decide +kernel
theorem dX12_least_44 : decode cX12_least 44 = .ok (.bipush 8, 2) := by decide +kernel
theorem dX12_least_46 : decode cX12_least 46 = .ok (.invokevirtual 385, 3) := by decide +kernel
theorem dX12_least_49 : decode cX12_least 49 = .ok (.aload_n 0, 1) := by decide +kernel
theorem dX12_least_50 : decode cX12_least 50 = .ok (.bipush 8, 2) := by decide +kernel
theorem dX12_least_52 : decode cX12_least 52 = .ok (.aload_n 0, 1) := by decide +kernel
theorem dX12_least_53 : decode cX12_least 53 = .ok (.getfield 103, 3) := by decide +kernel
theorem dX12_least_56 : decode cX12_least 56 = .ok (.invokevirtual 388, 3) := by decide +kernel
theorem dX12_least_59 : decode cX12_least 59 = .ok (.aload_n 0, 1) := by decide +kernel
theorem dX12_least_60 : decode cX12_least 60 = .ok (.iload_n 2, 1) := by decide +kernel
theorem dX12_least_61 : decode cX12_least 61 = .ok (.invokevirtual 153, 3) := by decide +kernel
theorem dX12_least_64 : decode cX12_least 64 = .ok (.aload_n 0, 1) := by decide +kernel
theorem dX12_least_65 : decode cX12_least 65 = .ok (.bipush 8, 2) := by decide +kernel
theorem dX12_least_67 : decode cX12_least 67 = .ok (.iload_n 2, 1) := by decide +kernel
theorem dX12_least_68 : decode cX12_least 68 = .ok (.invokevirtual 202, 3) := by decide +kernel
theorem dX12_least_71 : decode cX12_least 71 = .ok (.aload_n 0, 1) := by decide +kernel
theorem dX12_least_72 : decode cX12_least 72 = .ok (.iload_n 2, 1) := by decide +kernel
theorem dX12_least_73 : decode cX12_least 73 = .ok (.invokevirtual 391, 3) := by decide +kernel
theorem dX12_least_76 : decode cX12_least 76 = .ok (.ireturn, 1) := by decide +kernel
theorem dX12_least_21 : decode cX12_least 21 = .ok (.bipush (-3), 2) := by decide +kernel
theorem dX12_least_23 : decode cX12_least 23 = .ok (.ireturn, 1) := by decide +kernel
def fX12_least (F : Nat) (a0 : Nat) (a1 : Int) (a2 : Int) (h : HF) : RO :=
  zpf h a0 0 0 fun h =>
  zbd (fX12_isDrawer F a0 a1 h) fun r1 h =>
  zjn (fun  (h : HF) => (
    some ((-3), h)
  )) fun j21 =>
  if r1 = 0 then (
    j21  h
  ) else (
    zbd (fX12_isDrawer F a0 a2 h) fun r2 h =>
    if r2 = 0 then (
      j21  h
    ) else (
      zrd h (a0 + 3) a1 fun x3 =>
      if x3 = 0 then (
        some ((-2), h)
      ) else (
        zbd (fX12_copy F a0 a1 8 h) fun _ h =>
        zbd (fX12_findLeast F a0 8 h) fun _ h =>
        zbd (fX12_putLine F a0 8 (a0 + 32) h) fun _ h =>
        zbd (fX12_keep F a0 a2 h) fun _ h =>
        zbd (fX12_copy F a0 8 a2 h) fun _ h =>
        zbd (fX12_turns F a0 a2 h) fun r9 h =>
        some (r9, h)
      )
    )
  )
set_option maxHeartbeats 4000000 in
set_option maxRecDepth 100000 in
theorem mX12_least (F : Nat) (l : Launch) (g : zG) (B : Nat) (h : HF) (a0 : Nat) (a1 : Int) (a2 : Int) (ra0 : kt a0 = 15) (ra1 : rng a1) (ra2 : rng a2) : CTi l g B yX12_least cX12_least 3 (some .int) 17 [.ref (B + a0), .int (ii a1), .int (ii a2)] h (fX12_least F a0 a1 a2 h) := by
  refine z_enterI (by decide) rfl (Nat.le_of_ble_eq_true rfl) ?_
  intro p e s m args below meth c ls o Q cx hp hl hf hQ
  have hl : lv_has ls 3 [(0, .ref (B + a0)), (1, .int (ii a1)), (2, .int (ii a2))] := hl
  unfold fX12_least at hf
  refine lv_aload_n cx.1 cx.2.1 dX12_least_0 rfl (lv_at hl 0 rfl) ?_
  refine z_iconst cx dX12_least_1 ?_
  refine z_puti cx hp (T := TX12) tyX12 tyX12_ok nmX12 12 0 (by decide) rfl zin_12 (by decide) (by decide) ra0 rfl rfl rfl fl_X12_115 dX12_least_2 hf (fun h H locs hp hf => ?_)
  refine lv_aload_n cx.1 cx.2.1 dX12_least_5 rfl (lv_at hl 0 rfl) ?_
  refine lv_iload_n cx.1 cx.2.1 dX12_least_6 rfl (lv_at hl 1 rfl) ?_
  refine z_ci cx hp (fun o' hx => zrunV (n := 17) (As := [.int (ii a1)]) (rest := []) cx hp (mX12_isDrawer F l g B h a0 a1 ra0 ra1 o' hx) 12 ra0 (by decide) rfl vw_X12_isDrawer ml_X12_146 (by decide) rfl hl.1 rfl (Nat.le_of_ble_eq_true rfl) dX12_least_7) hf (fun r1 h H locs rr1 hp hf => ?_)
  refine z_jn hf (fun j => ∀  (h : HF) (H : Heap) (locs : List Loc) (ls : Array Slot), Hp g B s h H locs → lv_has ls 3 [] → j  h = some o → W p l e (rmn 17) s m args below meth c H locs 0 0 Q (F0 m 21 ls [])) ?_ (fun j21 hj21 hf => ?_)
  · intro  h H locs ls  hp hl hf
    refine z_bipush cx (by decide) dX12_least_21 ?_
    rw [hQ]; exact z_iret cx hp (by decide) dX12_least_23 hf
  refine z_if_eq cx rr1 (tgt := 21) dX12_least_10 (by decide) hf (fun _ hf => ?_) (fun _ hf => ?_)
  · exact hj21  h _ _ ls  hp (lv_sub hl [] rfl) hf
  · refine lv_aload_n cx.1 cx.2.1 dX12_least_13 rfl (lv_at hl 0 rfl) ?_
    refine lv_iload_n cx.1 cx.2.1 dX12_least_14 rfl (lv_at hl 2 rfl) ?_
    refine z_ci cx hp (fun o' hx => zrunV (n := 17) (As := [.int (ii a2)]) (rest := []) cx hp (mX12_isDrawer F l g B h a0 a2 ra0 ra2 o' hx) 12 ra0 (by decide) rfl vw_X12_isDrawer ml_X12_146 (by decide) rfl hl.1 rfl (Nat.le_of_ble_eq_true rfl) dX12_least_15) hf (fun r2 h H locs rr2 hp hf => ?_)
    refine z_if_ne cx rr2 (tgt := 24) dX12_least_18 (by decide) hf (fun _ hf => ?_) (fun _ hf => ?_)
    · exact hj21  h _ _ ls  hp (lv_sub hl [] rfl) hf
    · refine lv_aload_n cx.1 cx.2.1 dX12_least_24 rfl (lv_at hl 0 rfl) ?_
      refine z_gets cx hp (T := TX12) 12 6 (a0 + 3) rfl zin_12 (by decide) (by decide) ra0 rfl fl_X12_16 dX12_least_25 ?_
      refine lv_iload_n cx.1 cx.2.1 dX12_least_28 rfl (lv_at hl 1 rfl) ?_
      refine z_iald cx hp (zs_12_6 a0 (kt_lt ra0 (by decide)) ra0) ra1 dX12_least_29 hf (fun x3 rx3 hf => ?_)
      refine z_if_ne cx rx3 (tgt := 36) dX12_least_30 (by decide) hf (fun _ hf => ?_) (fun _ hf => ?_)
      · refine z_bipush cx (by decide) dX12_least_33 ?_
        rw [hQ]; exact z_iret cx hp (by decide) dX12_least_35 hf
      · refine lv_aload_n cx.1 cx.2.1 dX12_least_36 rfl (lv_at hl 0 rfl) ?_
        refine lv_iload_n cx.1 cx.2.1 dX12_least_37 rfl (lv_at hl 1 rfl) ?_
        refine z_bipush cx (by decide) dX12_least_38 ?_
        refine z_cv cx hp (fun o' hx => zrunV (n := 17) (As := [.int (ii a1), .int (ii 8)]) (rest := []) cx hp (mX12_copy F l g B h a0 a1 8 ra0 ra1 (by decide) o' hx) 12 ra0 (by decide) rfl vw_X12_copy ml_X12_202 (by decide) rfl hl.1 rfl (Nat.le_of_ble_eq_true rfl) dX12_least_40) hf (fun _ h H locs hp hf => ?_)
        refine lv_aload_n cx.1 cx.2.1 dX12_least_43 rfl (lv_at hl 0 rfl) ?_
        refine z_bipush cx (by decide) dX12_least_44 ?_
        refine z_cv cx hp (fun o' hx => zrunV (n := 17) (As := [.int (ii 8)]) (rest := []) cx hp (mX12_findLeast F l g B h a0 8 ra0 (by decide) o' hx) 12 ra0 (by decide) rfl vw_X12_findLeast ml_X12_385 (by decide) rfl hl.1 rfl (Nat.le_of_ble_eq_true rfl) dX12_least_46) hf (fun _ h H locs hp hf => ?_)
        refine lv_aload_n cx.1 cx.2.1 dX12_least_49 rfl (lv_at hl 0 rfl) ?_
        refine z_bipush cx (by decide) dX12_least_50 ?_
        refine lv_aload_n cx.1 cx.2.1 dX12_least_52 rfl (lv_at hl 0 rfl) ?_
        refine z_gets cx hp (T := TX12) 12 50 (a0 + 32) rfl zin_12 (by decide) (by decide) ra0 rfl fl_X12_103 dX12_least_53 ?_
        refine z_cv cx hp (fun o' hx => zrunV (n := 17) (As := [.int (ii 8), .ref (B + (a0 + 32))]) (rest := []) cx hp (mX12_putLine F l g B h a0 8 (a0 + 32) ra0 (by decide) (zs_12_50 a0 (kt_lt ra0 (by decide)) ra0) o' hx) 12 ra0 (by decide) rfl vw_X12_putLine ml_X12_388 (by decide) rfl hl.1 rfl (Nat.le_of_ble_eq_true rfl) dX12_least_56) hf (fun _ h H locs hp hf => ?_)
        refine lv_aload_n cx.1 cx.2.1 dX12_least_59 rfl (lv_at hl 0 rfl) ?_
        refine lv_iload_n cx.1 cx.2.1 dX12_least_60 rfl (lv_at hl 2 rfl) ?_
        refine z_cv cx hp (fun o' hx => zrunV (n := 17) (As := [.int (ii a2)]) (rest := []) cx hp (mX12_keep F l g B h a0 a2 ra0 ra2 o' hx) 12 ra0 (by decide) rfl vw_X12_keep ml_X12_153 (by decide) rfl hl.1 rfl (Nat.le_of_ble_eq_true rfl) dX12_least_61) hf (fun _ h H locs hp hf => ?_)
        refine lv_aload_n cx.1 cx.2.1 dX12_least_64 rfl (lv_at hl 0 rfl) ?_
        refine z_bipush cx (by decide) dX12_least_65 ?_
        refine lv_iload_n cx.1 cx.2.1 dX12_least_67 rfl (lv_at hl 2 rfl) ?_
        refine z_cv cx hp (fun o' hx => zrunV (n := 17) (As := [.int (ii 8), .int (ii a2)]) (rest := []) cx hp (mX12_copy F l g B h a0 8 a2 ra0 (by decide) ra2 o' hx) 12 ra0 (by decide) rfl vw_X12_copy ml_X12_202 (by decide) rfl hl.1 rfl (Nat.le_of_ble_eq_true rfl) dX12_least_68) hf (fun _ h H locs hp hf => ?_)
        refine lv_aload_n cx.1 cx.2.1 dX12_least_71 rfl (lv_at hl 0 rfl) ?_
        refine lv_iload_n cx.1 cx.2.1 dX12_least_72 rfl (lv_at hl 2 rfl) ?_
        refine z_ci cx hp (fun o' hx => zrunV (n := 17) (As := [.int (ii a2)]) (rest := []) cx hp (mX12_turns F l g B h a0 a2 ra0 ra2 o' hx) 12 ra0 (by decide) rfl vw_X12_turns ml_X12_391 (by decide) rfl hl.1 rfl (Nat.le_of_ble_eq_true rfl) dX12_least_73) hf (fun r9 h H locs rr9 hp hf => ?_)
        rw [hQ]; exact z_iret cx hp rr9 dX12_least_76 hf
theorem dX12_findModel_0 : decode cX12_findModel 0 = .ok (.iconst 0, 1) := by decide +kernel
theorem dX12_findModel_1 : decode cX12_findModel 1 = .ok (.istore 4, 2) := by decide +kernel
theorem dX12_findModel_3 : decode cX12_findModel 3 = .ok (.iconst 1, 1) := by decide +kernel
theorem dX12_findModel_4 : decode cX12_findModel 4 = .ok (.istore 5, 2) := by decide +kernel
theorem dX12_findModel_6 : decode cX12_findModel 6 = .ok (.iload 5, 2) := by decide +kernel
theorem dX12_findModel_8 : decode cX12_findModel 8 = .ok (.ifCond .eq 47, 3) := by decide +kernel
theorem dX12_findModel_11 : decode cX12_findModel 11 = .ok (.aload_n 0, 1) := by decide +kernel
theorem dX12_findModel_12 : decode cX12_findModel 12 = .ok (.bipush 9, 2) := by decide +kernel
theorem dX12_findModel_14 : decode cX12_findModel 14 = .ok (.iload_n 1, 1) := by decide +kernel
theorem dX12_findModel_15 : decode cX12_findModel 15 = .ok (.invokevirtual 292, 3) := by decide +kernel
theorem dX12_findModel_18 : decode cX12_findModel 18 = .ok (.iconst (-1), 1) := by decide +kernel
theorem dX12_findModel_19 : decode cX12_findModel 19 = .ok (.if_icmp .ne 27, 3) := by decide +kernel
theorem dX12_findModel_22 : decode cX12_findModel 22 = .ok (.iload_n 2, 1) := by decide +kernel
theorem dX12_findModel_23 : decode cX12_findModel 23 = .ok (.ifCond .eq 12, 3) := by decide +kernel
theorem dX12_findModel_26 : decode cX12_findModel 26 = .ok (.aload_n 0, 1) := by decide +kernel
theorem dX12_findModel_27 : decode cX12_findModel 27 = .ok (.bipush 9, 2) := by decide +kernel
theorem dX12_findModel_29 : decode cX12_findModel 29 = .ok (.invokevirtual 411, 3) := by decide +kernel
theorem dX12_findModel_32 : decode cX12_findModel 32 = .ok (.ifCond .eq 14, 3) := by decide +kernel
theorem dX12_findModel_35 : decode cX12_findModel 35 = .ok (.iload 4, 2) := by decide +kernel
theorem dX12_findModel_37 : decode cX12_findModel 37 = .ok (.iload_n 3, 1) := by decide +kernel
theorem dX12_findModel_38 : decode cX12_findModel 38 = .ok (.if_icmp .ne 5, 3) := by decide +kernel
theorem dX12_findModel_41 : decode cX12_findModel 41 = .ok (.iconst 1, 1) := by decide +kernel
theorem dX12_findModel_42 : decode cX12_findModel 42 = .ok (.ireturn, 1) := by decide +kernel
theorem dX12_findModel_43 : decode cX12_findModel 43 = .ok (.iinc 4 1, 3) := by decide +kernel
theorem dX12_findModel_46 : decode cX12_findModel 46 = .ok (.aload_n 0, 1) := by decide +kernel
theorem dX12_findModel_47 : decode cX12_findModel 47 = .ok (.invokevirtual 414, 3) := by decide +kernel
theorem dX12_findModel_50 : decode cX12_findModel 50 = .ok (.istore 5, 2) := by decide +kernel
theorem dX12_findModel_52 : decode cX12_findModel 52 = .ok (.goto (-46), 3) := by decide +kernel
theorem dX12_findModel_55 : decode cX12_findModel 55 = .ok (.aload_n 0, 1) := by decide +kernel
theorem dX12_findModel_56 : decode cX12_findModel 56 = .ok (.iload 4, 2) := by decide +kernel
theorem dX12_findModel_58 : decode cX12_findModel 58 = .ok (.putfield 311, 3) := by decide +kernel
theorem dX12_findModel_61 : decode cX12_findModel 61 = .ok (.iconst 0, 1) := by decide +kernel
theorem dX12_findModel_62 : decode cX12_findModel 62 = .ok (.ireturn, 1) := by decide +kernel
def LX12_findModel_6 (F : Nat) (u0 : Nat) (u1 : Int) (u2 : Int) (u3 : Int) (k55 : Int → HF → RO) (k41 : HF → RO) : Nat → Int → Int → HF → RO
  | 0, _, _, _ => none
  | n + 1, v4, v5, h =>
    if v5 = 0 then (
      k55 v4 h
    ) else (
      zbd (fX12_broken F u0 9 u1 h) fun r1 h =>
      zjn (fun (x46_4 : Int) (h : HF) => (
        zbd (fX12_nextTable F u0 h) fun r2 h =>
        LX12_findModel_6 F u0 u1 u2 u3 k55 k41 n x46_4 r2 h
      )) fun j46 =>
      if r1 = (-1) then (
        zjn (fun (x35_4 : Int) (h : HF) => (
          if x35_4 = u3 then (
            k41  h
          ) else (
            zlet (wr (x35_4 + 1)) fun x3 =>
            j46 x3 h
          )
        )) fun j35 =>
        if u2 = 0 then (
          j35 v4 h
        ) else (
          zbd (fX12_isLeast F u0 9 h) fun r4 h =>
          if r4 = 0 then (
            j46 v4 h
          ) else (
            j35 v4 h
          )
        )
      ) else (
        j46 v4 h
      )
    )
set_option maxHeartbeats 4000000 in
set_option maxRecDepth 100000 in
theorem wX12_findModel_6 {p : Program} {l : Launch} {e : Env} {s : State} {m : MethodId} {args : Array Value} {below : List Frame} {meth : Method} {c : Code} {Q : State → Prop} {g : zG} {B : Nat} {o : Int × HF} (F : Nat) (cx : Cx p s m args meth c cX12_findModel 6 RX12 (some .boolean) g B) (u0 : Nat) (ru0 : kt u0 = 15) (u1 : Int) (ru1 : rng u1) (u2 : Int) (ru2 : rng u2) (u3 : Int) (ru3 : rng u3) (k55 : Int → HF → RO) (hk55 : ∀ (x4 : Int) (h : HF) (H : Heap) (locs : List Loc) (ls : Array Slot), rng x4 → Hp g B s h H locs → lv_has ls 6 [(0, .ref (B + u0)), (4, .int (ii x4))] → k55 x4 h = some o → W p l e (rmn 18) s m args below meth c H locs 0 0 Q (F0 m 55 ls [])) (k41 : HF → RO) (hk41 : ∀  (h : HF) (H : Heap) (locs : List Loc) (ls : Array Slot), Hp g B s h H locs → lv_has ls 6 [] → k41  h = some o → W p l e (rmn 18) s m args below meth c H locs 0 0 Q (F0 m 41 ls [])) : ∀ (n : Nat) (v4 : Int) (v5 : Int) (h : HF) (H : Heap) (locs : List Loc) (ls : Array Slot), rng v4 → rng v5 → Hp g B s h H locs → lv_has ls 6 [(0, .ref (B + u0)), (1, .int (ii u1)), (2, .int (ii u2)), (3, .int (ii u3)), (4, .int (ii v4)), (5, .int (ii v5))] → LX12_findModel_6 F u0 u1 u2 u3 k55 k41 n v4 v5 h = some o → W p l e (rmn 18) s m args below meth c H locs 0 0 Q (F0 m 6 ls []) := by
  intro n
  induction n with
  | zero =>
    intro v4 v5 h H locs ls rv4 rv5 hp hl hf
    cases hf
  | succ n ih =>
    intro v4 v5 h H locs ls rv4 rv5 hp hl hf
    rw [LX12_findModel_6] at hf
    refine lv_iload cx.1 cx.2.1 dX12_findModel_6 (lv_at hl 5 rfl) ?_
    refine z_if_eq cx rv5 (tgt := 55) dX12_findModel_8 (by decide) hf (fun _ hf => ?_) (fun _ hf => ?_)
    · exact hk55 v4 h _ _ ls rv4 hp (lv_sub hl [0, 4] rfl) hf
    · refine lv_aload_n cx.1 cx.2.1 dX12_findModel_11 rfl (lv_at hl 0 rfl) ?_
      refine z_bipush cx (by decide) dX12_findModel_12 ?_
      refine lv_iload_n cx.1 cx.2.1 dX12_findModel_14 rfl (lv_at hl 1 rfl) ?_
      refine z_ci cx hp (fun o' hx => zrunV (n := 18) (As := [.int (ii 9), .int (ii u1)]) (rest := []) cx hp (mX12_broken F l g B h u0 9 u1 ru0 (by decide) ru1 o' hx) 12 ru0 (by decide) rfl vw_X12_broken ml_X12_292 (by decide) rfl hl.1 rfl (Nat.le_of_ble_eq_true rfl) dX12_findModel_15) hf (fun r1 h H locs rr1 hp hf => ?_)
      refine z_iconst cx dX12_findModel_18 ?_
      refine z_jn hf (fun j => ∀ (x46_4 : Int) (h : HF) (H : Heap) (locs : List Loc) (ls : Array Slot), rng x46_4 → Hp g B s h H locs → lv_has ls 6 [(0, .ref (B + u0)), (1, .int (ii u1)), (2, .int (ii u2)), (3, .int (ii u3)), (4, .int (ii x46_4))] → j x46_4 h = some o → W p l e (rmn 18) s m args below meth c H locs 0 0 Q (F0 m 46 ls [])) ?_ (fun j46 hj46 hf => ?_)
      · intro x46_4 h H locs ls rx46_4 hp hl hf
        refine lv_aload_n cx.1 cx.2.1 dX12_findModel_46 rfl (lv_at hl 0 rfl) ?_
        refine z_ci cx hp (fun o' hx => zrunV (n := 18) (As := []) (rest := []) cx hp (mX12_nextTable F l g B h u0 ru0 o' hx) 12 ru0 (by decide) rfl vw_X12_nextTable ml_X12_414 (by decide) rfl hl.1 rfl (Nat.le_of_ble_eq_true rfl) dX12_findModel_47) hf (fun r2 h H locs rr2 hp hf => ?_)
        refine lv_istore (lv' := [(5, .int (ii r2)), (0, .ref (B + u0)), (1, .int (ii u1)), (2, .int (ii u2)), (3, .int (ii u3)), (4, .int (ii x46_4))]) cx.1 cx.2.1 dX12_findModel_50 hl (by decide) rfl (fun ls hl => ?_)
        refine lv_goto (tgt := 6) cx.1 cx.2.1 dX12_findModel_52 (by decide) ?_
        exact ih x46_4 r2 h _ _ ls rx46_4 rr2 hp (lv_sub hl [1, 2, 3, 4, 5, 0] rfl) hf
      refine z_icmp_ne cx rr1 (by decide) (tgt := 46) dX12_findModel_19 (by decide) hf (fun _ hf => ?_) (fun _ hf => ?_)
      · refine lv_iload_n cx.1 cx.2.1 dX12_findModel_22 rfl (lv_at hl 2 rfl) ?_
        refine z_jn hf (fun j => ∀ (x35_4 : Int) (h : HF) (H : Heap) (locs : List Loc) (ls : Array Slot), rng x35_4 → Hp g B s h H locs → lv_has ls 6 [(0, .ref (B + u0)), (1, .int (ii u1)), (2, .int (ii u2)), (3, .int (ii u3)), (4, .int (ii x35_4))] → j x35_4 h = some o → W p l e (rmn 18) s m args below meth c H locs 0 0 Q (F0 m 35 ls [])) ?_ (fun j35 hj35 hf => ?_)
        · intro x35_4 h H locs ls rx35_4 hp hl hf
          refine lv_iload cx.1 cx.2.1 dX12_findModel_35 (lv_at hl 4 rfl) ?_
          refine lv_iload_n cx.1 cx.2.1 dX12_findModel_37 rfl (lv_at hl 3 rfl) ?_
          refine z_icmp_ne cx rx35_4 ru3 (tgt := 43) dX12_findModel_38 (by decide) hf (fun _ hf => ?_) (fun _ hf => ?_)
          · exact hk41  h _ _ ls  hp (lv_sub hl [] rfl) hf
          · refine z_iinc cx (fun x3 => [(4, .int (ii x3)), (0, .ref (B + u0)), (1, .int (ii u1)), (2, .int (ii u2)), (3, .int (ii u3))]) dX12_findModel_43 hl (k := 4) rfl (by decide) (fun _ => rfl) hf (fun x3 rx3 hf ls hl => ?_)
            exact hj46 x3 h _ _ ls rx3 hp (lv_sub hl [1, 2, 3, 4, 0] rfl) hf
        refine z_if_eq cx ru2 (tgt := 35) dX12_findModel_23 (by decide) hf (fun _ hf => ?_) (fun _ hf => ?_)
        · exact hj35 v4 h _ _ ls rv4 hp (lv_sub hl [0, 1, 2, 3, 4] rfl) hf
        · refine lv_aload_n cx.1 cx.2.1 dX12_findModel_26 rfl (lv_at hl 0 rfl) ?_
          refine z_bipush cx (by decide) dX12_findModel_27 ?_
          refine z_ci cx hp (fun o' hx => zrunV (n := 18) (As := [.int (ii 9)]) (rest := []) cx hp (mX12_isLeast F l g B h u0 9 ru0 (by decide) o' hx) 12 ru0 (by decide) rfl vw_X12_isLeast ml_X12_411 (by decide) rfl hl.1 rfl (Nat.le_of_ble_eq_true rfl) dX12_findModel_29) hf (fun r4 h H locs rr4 hp hf => ?_)
          refine z_if_eq cx rr4 (tgt := 46) dX12_findModel_32 (by decide) hf (fun _ hf => ?_) (fun _ hf => ?_)
          · exact hj46 v4 h _ _ ls rv4 hp (lv_sub hl [0, 1, 2, 3, 4] rfl) hf
          · exact hj35 v4 h _ _ ls rv4 hp (lv_sub hl [0, 1, 2, 3, 4] rfl) hf
      · exact hj46 v4 h _ _ ls rv4 hp (lv_sub hl [0, 1, 2, 3, 4] rfl) hf
def fX12_findModel (F : Nat) (a0 : Nat) (a1 : Int) (a2 : Int) (a3 : Int) (h : HF) : RO :=
  zjn (fun (x55_4 : Int) (h : HF) => (
    zpf h a0 43 x55_4 fun h =>
    zrz 0 h
  )) fun j55 =>
  zjn (fun  (h : HF) => (
    zrz 1 h
  )) fun j41 =>
  LX12_findModel_6 F a0 a1 a2 a3 j55 j41 F 0 1 h
set_option maxHeartbeats 4000000 in
set_option maxRecDepth 100000 in
theorem mX12_findModel (F : Nat) (l : Launch) (g : zG) (B : Nat) (h : HF) (a0 : Nat) (a1 : Int) (a2 : Int) (a3 : Int) (ra0 : kt a0 = 15) (ra1 : rng a1) (ra2 : rng a2) (ra3 : rng a3) : CTi l g B yX12_findModel cX12_findModel 6 (some .boolean) 18 [.ref (B + a0), .int (ii a1), .int (ii a2), .int (ii a3)] h (fX12_findModel F a0 a1 a2 a3 h) := by
  refine z_enterI (by decide) rfl (Nat.le_of_ble_eq_true rfl) ?_
  intro p e s m args below meth c ls o Q cx hp hl hf hQ
  have hl : lv_has ls 6 [(0, .ref (B + a0)), (1, .int (ii a1)), (2, .int (ii a2)), (3, .int (ii a3))] := hl
  unfold fX12_findModel at hf
  refine z_iconst cx dX12_findModel_0 ?_
  refine lv_istore (lv' := [(4, .int (ii 0)), (0, .ref (B + a0)), (1, .int (ii a1)), (2, .int (ii a2)), (3, .int (ii a3))]) cx.1 cx.2.1 dX12_findModel_1 hl (by decide) rfl (fun ls hl => ?_)
  refine z_iconst cx dX12_findModel_3 ?_
  refine lv_istore (lv' := [(5, .int (ii 1)), (4, .int (ii 0)), (0, .ref (B + a0)), (1, .int (ii a1)), (2, .int (ii a2)), (3, .int (ii a3))]) cx.1 cx.2.1 dX12_findModel_4 hl (by decide) rfl (fun ls hl => ?_)
  refine z_jn hf (fun j => ∀ (x55_4 : Int) (h : HF) (H : Heap) (locs : List Loc) (ls : Array Slot), rng x55_4 → Hp g B s h H locs → lv_has ls 6 [(0, .ref (B + a0)), (4, .int (ii x55_4))] → j x55_4 h = some o → W p l e (rmn 18) s m args below meth c H locs 0 0 Q (F0 m 55 ls [])) ?_ (fun j55 hj55 hf => ?_)
  · intro x55_4 h H locs ls rx55_4 hp hl hf
    refine lv_aload_n cx.1 cx.2.1 dX12_findModel_55 rfl (lv_at hl 0 rfl) ?_
    refine lv_iload cx.1 cx.2.1 dX12_findModel_56 (lv_at hl 1 rfl) ?_
    refine z_puti cx hp (T := TX12) tyX12 tyX12_ok nmX12 12 43 rx55_4 rfl zin_12 (by decide) (by decide) ra0 rfl rfl rfl fl_X12_311 dX12_findModel_58 hf (fun h H locs hp hf => ?_)
    refine z_iconst cx dX12_findModel_61 ?_
    rw [hQ]; exact z_zret cx hp dX12_findModel_62 hf
  refine z_jn hf (fun j => ∀  (h : HF) (H : Heap) (locs : List Loc) (ls : Array Slot), Hp g B s h H locs → lv_has ls 6 [] → j  h = some o → W p l e (rmn 18) s m args below meth c H locs 0 0 Q (F0 m 41 ls [])) ?_ (fun j41 hj41 hf => ?_)
  · intro  h H locs ls  hp hl hf
    refine z_iconst cx dX12_findModel_41 ?_
    rw [hQ]; exact z_zret cx hp dX12_findModel_42 hf
  exact wX12_findModel_6 F cx a0 ra0 a1 ra1 a2 ra2 a3 ra3 j55 hj55 j41 hj41 F 0 1 h _ _ ls (by decide) (by decide) hp (lv_sub hl [2, 3, 4, 5, 1, 0] rfl) hf
theorem dX12_models_0 : decode cX12_models 0 = .ok (.aload_n 0, 1) := by decide +kernel
theorem dX12_models_1 : decode cX12_models 1 = .ok (.iconst 0, 1) := by decide +kernel
theorem dX12_models_2 : decode cX12_models 2 = .ok (.putfield 115, 3) := by decide +kernel
theorem dX12_models_5 : decode cX12_models 5 = .ok (.aload_n 0, 1) := by decide +kernel
theorem dX12_models_6 : decode cX12_models 6 = .ok (.iload_n 3, 1) := by decide +kernel
theorem dX12_models_7 : decode cX12_models 7 = .ok (.invokevirtual 247, 3) := by decide +kernel
theorem dX12_models_10 : decode cX12_models 10 = .ok (.ifCond .ne 6, 3) := by decide +kernel
theorem dX12_models_13 : decode cX12_models 13 = .ok (.bipush (-3), 2) := by decide +kernel
theorem dX12_models_15 : decode cX12_models 15 = .ok (.ireturn, 1) := by decide +kernel
theorem dX12_models_16 : decode cX12_models 16 = .ok (.aload_n 0, 1) := by decide +kernel
theorem dX12_models_17 : decode cX12_models 17 = .ok (.iload_n 1, 1) := by decide +kernel
theorem dX12_models_18 : decode cX12_models 18 = .ok (.iload_n 2, 1) := by decide +kernel
theorem dX12_models_19 : decode cX12_models 19 = .ok (.iload_n 3, 1) := by decide +kernel
theorem dX12_models_20 : decode cX12_models 20 = .ok (.invokevirtual 418, 3) := by decide +kernel
theorem dX12_models_23 : decode cX12_models 23 = .ok (.istore 5, 2) := by decide +kernel
theorem dX12_models_25 : decode cX12_models 25 = .ok (.iload 5, 2) := by decide +kernel
theorem dX12_models_27 : decode cX12_models 27 = .ok (.ifCond .eq 6, 3) := by decide +kernel
theorem dX12_models_30 : decode cX12_models 30 = .ok (.iload 5, 2) := by decide +kernel
theorem dX12_models_32 : decode cX12_models 32 = .ok (.ireturn, 1) := by decide +kernel
theorem dX12_models_33 : decode cX12_models 33 = .ok (.aload_n 0, 1) := by decide +kernel
theorem dX12_models_34 : decode cX12_models 34 = .ok (.iload_n 3, 1) := by decide +kernel
theorem dX12_models_35 : decode cX12_models 35 = .ok (.iload 4, 2) := by decide +kernel
theorem dX12_models_37 : decode cX12_models 37 = .ok (.iconst (-1), 1) := by decide +kernel
theorem dX12_models_38 : decode cX12_models 38 = .ok (.invokevirtual 421, 3) := by decide +kernel
theorem dX12_models_41 : decode cX12_models 41 = .ok (.istore 6, 2) := by decide +kernel
theorem dX12_models_43 : decode cX12_models 43 = .ok (.aload_n 0, 1) := by decide +kernel
theorem dX12_models_44 : decode cX12_models 44 = .ok (.getfield 311, 3) := by decide +kernel
theorem dX12_models_47 : decode cX12_models 47 = .ok (.ireturn, 1) := by decide +kernel
def fX12_models (F : Nat) (a0 : Nat) (a1 : Int) (a2 : Int) (a3 : Int) (a4 : Int) (h : HF) : RO :=
  zpf h a0 0 0 fun h =>
  zbd (fX12_isList F a0 a3 h) fun r1 h =>
  if r1 = 0 then (
    some ((-3), h)
  ) else (
    zbd (fX12_refuseModels F a0 a1 a2 a3 h) fun r2 h =>
    if r2 = 0 then (
      zbd (fX12_findModel F a0 a3 a4 (-1) h) fun r3 h =>
      zgf h a0 43 fun x4 =>
      some (x4, h)
    ) else (
      some (r2, h)
    )
  )
set_option maxHeartbeats 4000000 in
set_option maxRecDepth 100000 in
theorem mX12_models (F : Nat) (l : Launch) (g : zG) (B : Nat) (h : HF) (a0 : Nat) (a1 : Int) (a2 : Int) (a3 : Int) (a4 : Int) (ra0 : kt a0 = 15) (ra1 : rng a1) (ra2 : rng a2) (ra3 : rng a3) (ra4 : rng a4) : CTi l g B yX12_models cX12_models 7 (some .int) 19 [.ref (B + a0), .int (ii a1), .int (ii a2), .int (ii a3), .int (ii a4)] h (fX12_models F a0 a1 a2 a3 a4 h) := by
  refine z_enterI (by decide) rfl (Nat.le_of_ble_eq_true rfl) ?_
  intro p e s m args below meth c ls o Q cx hp hl hf hQ
  have hl : lv_has ls 7 [(0, .ref (B + a0)), (1, .int (ii a1)), (2, .int (ii a2)), (3, .int (ii a3)), (4, .int (ii a4))] := hl
  unfold fX12_models at hf
  refine lv_aload_n cx.1 cx.2.1 dX12_models_0 rfl (lv_at hl 0 rfl) ?_
  refine z_iconst cx dX12_models_1 ?_
  refine z_puti cx hp (T := TX12) tyX12 tyX12_ok nmX12 12 0 (by decide) rfl zin_12 (by decide) (by decide) ra0 rfl rfl rfl fl_X12_115 dX12_models_2 hf (fun h H locs hp hf => ?_)
  refine lv_aload_n cx.1 cx.2.1 dX12_models_5 rfl (lv_at hl 0 rfl) ?_
  refine lv_iload_n cx.1 cx.2.1 dX12_models_6 rfl (lv_at hl 3 rfl) ?_
  refine z_ci cx hp (fun o' hx => zrunV (n := 19) (As := [.int (ii a3)]) (rest := []) cx hp (mX12_isList F l g B h a0 a3 ra0 ra3 o' hx) 12 ra0 (by decide) rfl vw_X12_isList ml_X12_247 (by decide) rfl hl.1 rfl (Nat.le_of_ble_eq_true rfl) dX12_models_7) hf (fun r1 h H locs rr1 hp hf => ?_)
  refine z_if_ne cx rr1 (tgt := 16) dX12_models_10 (by decide) hf (fun _ hf => ?_) (fun _ hf => ?_)
  · refine z_bipush cx (by decide) dX12_models_13 ?_
    rw [hQ]; exact z_iret cx hp (by decide) dX12_models_15 hf
  · refine lv_aload_n cx.1 cx.2.1 dX12_models_16 rfl (lv_at hl 0 rfl) ?_
    refine lv_iload_n cx.1 cx.2.1 dX12_models_17 rfl (lv_at hl 1 rfl) ?_
    refine lv_iload_n cx.1 cx.2.1 dX12_models_18 rfl (lv_at hl 2 rfl) ?_
    refine lv_iload_n cx.1 cx.2.1 dX12_models_19 rfl (lv_at hl 3 rfl) ?_
    refine z_ci cx hp (fun o' hx => zrunV (n := 19) (As := [.int (ii a1), .int (ii a2), .int (ii a3)]) (rest := []) cx hp (mX12_refuseModels F l g B h a0 a1 a2 a3 ra0 ra1 ra2 ra3 o' hx) 12 ra0 (by decide) rfl vw_X12_refuseModels ml_X12_418 (by decide) rfl hl.1 rfl (Nat.le_of_ble_eq_true rfl) dX12_models_20) hf (fun r2 h H locs rr2 hp hf => ?_)
    refine lv_istore (lv' := [(5, .int (ii r2)), (0, .ref (B + a0)), (1, .int (ii a1)), (2, .int (ii a2)), (3, .int (ii a3)), (4, .int (ii a4))]) cx.1 cx.2.1 dX12_models_23 hl (by decide) rfl (fun ls hl => ?_)
    refine lv_iload cx.1 cx.2.1 dX12_models_25 (lv_at hl 0 rfl) ?_
    refine z_if_eq cx rr2 (tgt := 33) dX12_models_27 (by decide) hf (fun _ hf => ?_) (fun _ hf => ?_)
    · refine lv_aload_n cx.1 cx.2.1 dX12_models_33 rfl (lv_at hl 1 rfl) ?_
      refine lv_iload_n cx.1 cx.2.1 dX12_models_34 rfl (lv_at hl 4 rfl) ?_
      refine lv_iload cx.1 cx.2.1 dX12_models_35 (lv_at hl 5 rfl) ?_
      refine z_iconst cx dX12_models_37 ?_
      refine z_ci cx hp (fun o' hx => zrunV (n := 19) (As := [.int (ii a3), .int (ii a4), .int (ii (-1))]) (rest := []) cx hp (mX12_findModel F l g B h a0 a3 a4 (-1) ra0 ra3 ra4 (by decide) o' hx) 12 ra0 (by decide) rfl vw_X12_findModel ml_X12_421 (by decide) rfl hl.1 rfl (Nat.le_of_ble_eq_true rfl) dX12_models_38) hf (fun r3 h H locs rr3 hp hf => ?_)
      refine lv_istore (lv' := [(6, .int (ii r3)), (5, .int (ii r2)), (0, .ref (B + a0)), (1, .int (ii a1)), (2, .int (ii a2)), (3, .int (ii a3)), (4, .int (ii a4))]) cx.1 cx.2.1 dX12_models_41 hl (by decide) rfl (fun ls hl => ?_)
      refine lv_aload_n cx.1 cx.2.1 dX12_models_43 rfl (lv_at hl 2 rfl) ?_
      refine z_geti cx hp (T := TX12) 12 43 rfl zin_12 (by decide) (by decide) ra0 rfl fl_X12_311 dX12_models_44 hf (fun x4 rx4 hf => ?_)
      rw [hQ]; exact z_iret cx hp rx4 dX12_models_47 hf
    · refine lv_iload cx.1 cx.2.1 dX12_models_30 (lv_at hl 0 rfl) ?_
      rw [hQ]; exact z_iret cx hp rr2 dX12_models_32 hf
theorem dX12_model_0 : decode cX12_model 0 = .ok (.aload_n 0, 1) := by decide +kernel
theorem dX12_model_1 : decode cX12_model 1 = .ok (.iconst 0, 1) := by decide +kernel
theorem dX12_model_2 : decode cX12_model 2 = .ok (.putfield 115, 3) := by decide +kernel
theorem dX12_model_5 : decode cX12_model 5 = .ok (.aload_n 0, 1) := by decide +kernel
theorem dX12_model_6 : decode cX12_model 6 = .ok (.iload_n 3, 1) := by decide +kernel
theorem dX12_model_7 : decode cX12_model 7 = .ok (.invokevirtual 247, 3) := by decide +kernel
theorem dX12_model_10 : decode cX12_model 10 = .ok (.ifCond .eq 12, 3) := by decide +kernel
theorem dX12_model_13 : decode cX12_model 13 = .ok (.aload_n 0, 1) := by decide +kernel
theorem dX12_model_14 : decode cX12_model 14 = .ok (.iload 5, 2) := by decide +kernel
theorem dX12_model_16 : decode cX12_model 16 = .ok (.invokevirtual 146, 3) := by decide +kernel
theorem dX12_model_19 : decode cX12_model 19 = .ok (.ifCond .ne 6, 3) := by decide +kernel
theorem dX12_model_25 : decode cX12_model 25 = .ok (.aload_n 0, 1) := by decide +kernel
theorem dX12_model_26 : decode cX12_model 26 = .ok (.iload_n 1, 1) := by decide +kernel
theorem dX12_model_27 : decode cX12_model 27 = .ok (.iload_n 2, 1) := by decide +kernel
theorem dX12_model_28 : decode cX12_model 28 = .ok (.iload_n 3, 1) := by decide +kernel
theorem dX12_model_29 : decode cX12_model 29 = .ok (.invokevirtual 418, 3) := by decide +kernel
theorem dX12_model_32 : decode cX12_model 32 = .ok (.istore 6, 2) := by decide +kernel
theorem dX12_model_34 : decode cX12_model 34 = .ok (.iload 6, 2) := by decide +kernel
theorem dX12_model_36 : decode cX12_model 36 = .ok (.ifCond .eq 6, 3) := by decide +kernel
theorem dX12_model_39 : decode cX12_model 39 = .ok (.iload 6, 2) := by decide +kernel
theorem dX12_model_41 : decode cX12_model 41 = .ok (.ireturn, 1) := by decide +kernel
theorem dX12_model_42 : decode cX12_model 42 = .ok (.iload 4, 2) := by decide +kernel
theorem dX12_model_44 : decode cX12_model 44 = .ok (.ifCond .lt 14, 3) := by decide +kernel
theorem dX12_model_47 : decode cX12_model 47 = .ok (.aload_n 0, 1) := by decide +kernel
theorem dX12_model_48 : decode cX12_model 48 = .ok (.iload_n 3, 1) := by decide +kernel
theorem dX12_model_49 : decode cX12_model 49 = .ok (.iconst 1, 1) := by decide +kernel
theorem dX12_model_50 : decode cX12_model 50 = .ok (.iload 4, 2) := by decide +kernel
theorem dX12_model_52 : decode cX12_model 52 = .ok (.invokevirtual 421, 3) := by decide +kernel
theorem dX12_model_55 : decode cX12_model 55 = .ok (.ifCond .ne 6, 3) := by decide +kernel
theorem dX12_model_61 : decode cX12_model 61 = .ok (.aload_n 0, 1) := by decide +kernel
theorem dX12_model_62 : decode cX12_model 62 = .ok (.iload 5, 2) := by decide +kernel
theorem dX12_model_64 : decode cX12_model 64 = .ok (.invokevirtual 153, 3) := by decide +kernel
theorem dX12_model_67 : decode cX12_model 67 = .ok (.aload_n 0, 1) := by decide +kernel
theorem dX12_model_68 : decode cX12_model 68 = .ok (.bipush 9, 2) := by decide +kernel
theorem dX12_model_70 : decode cX12_model 70 = .ok (.iload 5, 2) := by decide +kernel
theorem dX12_model_72 : decode cX12_model 72 = .ok (.invokevirtual 202, 3) := by decide +kernel
theorem dX12_model_75 : decode cX12_model 75 = .ok (.aload_n 0, 1) := by decide +kernel
theorem dX12_model_76 : decode cX12_model 76 = .ok (.iload 5, 2) := by decide +kernel
theorem dX12_model_78 : decode cX12_model 78 = .ok (.invokevirtual 391, 3) := by decide +kernel
theorem dX12_model_81 : decode cX12_model 81 = .ok (.ireturn, 1) := by decide +kernel
theorem dX12_model_58 : decode cX12_model 58 = .ok (.bipush (-3), 2) := by decide +kernel
theorem dX12_model_60 : decode cX12_model 60 = .ok (.ireturn, 1) := by decide +kernel
theorem dX12_model_22 : decode cX12_model 22 = .ok (.bipush (-3), 2) := by decide +kernel
theorem dX12_model_24 : decode cX12_model 24 = .ok (.ireturn, 1) := by decide +kernel
def fX12_model (F : Nat) (a0 : Nat) (a1 : Int) (a2 : Int) (a3 : Int) (a4 : Int) (a5 : Int) (h : HF) : RO :=
  zpf h a0 0 0 fun h =>
  zbd (fX12_isList F a0 a3 h) fun r1 h =>
  zjn (fun  (h : HF) => (
    some ((-3), h)
  )) fun j22 =>
  if r1 = 0 then (
    j22  h
  ) else (
    zbd (fX12_isDrawer F a0 a5 h) fun r2 h =>
    if r2 = 0 then (
      j22  h
    ) else (
      zbd (fX12_refuseModels F a0 a1 a2 a3 h) fun r3 h =>
      if r3 = 0 then (
        zjn (fun  (h : HF) => (
          some ((-3), h)
        )) fun j58 =>
        if a4 < 0 then (
          j58  h
        ) else (
          zbd (fX12_findModel F a0 a3 1 a4 h) fun r4 h =>
          if r4 = 0 then (
            j58  h
          ) else (
            zbd (fX12_keep F a0 a5 h) fun _ h =>
            zbd (fX12_copy F a0 9 a5 h) fun _ h =>
            zbd (fX12_turns F a0 a5 h) fun r7 h =>
            some (r7, h)
          )
        )
      ) else (
        some (r3, h)
      )
    )
  )
set_option maxHeartbeats 4000000 in
set_option maxRecDepth 100000 in
theorem mX12_model (F : Nat) (l : Launch) (g : zG) (B : Nat) (h : HF) (a0 : Nat) (a1 : Int) (a2 : Int) (a3 : Int) (a4 : Int) (a5 : Int) (ra0 : kt a0 = 15) (ra1 : rng a1) (ra2 : rng a2) (ra3 : rng a3) (ra4 : rng a4) (ra5 : rng a5) : CTi l g B yX12_model cX12_model 7 (some .int) 19 [.ref (B + a0), .int (ii a1), .int (ii a2), .int (ii a3), .int (ii a4), .int (ii a5)] h (fX12_model F a0 a1 a2 a3 a4 a5 h) := by
  refine z_enterI (by decide) rfl (Nat.le_of_ble_eq_true rfl) ?_
  intro p e s m args below meth c ls o Q cx hp hl hf hQ
  have hl : lv_has ls 7 [(0, .ref (B + a0)), (1, .int (ii a1)), (2, .int (ii a2)), (3, .int (ii a3)), (4, .int (ii a4)), (5, .int (ii a5))] := hl
  unfold fX12_model at hf
  refine lv_aload_n cx.1 cx.2.1 dX12_model_0 rfl (lv_at hl 0 rfl) ?_
  refine z_iconst cx dX12_model_1 ?_
  refine z_puti cx hp (T := TX12) tyX12 tyX12_ok nmX12 12 0 (by decide) rfl zin_12 (by decide) (by decide) ra0 rfl rfl rfl fl_X12_115 dX12_model_2 hf (fun h H locs hp hf => ?_)
  refine lv_aload_n cx.1 cx.2.1 dX12_model_5 rfl (lv_at hl 0 rfl) ?_
  refine lv_iload_n cx.1 cx.2.1 dX12_model_6 rfl (lv_at hl 3 rfl) ?_
  refine z_ci cx hp (fun o' hx => zrunV (n := 19) (As := [.int (ii a3)]) (rest := []) cx hp (mX12_isList F l g B h a0 a3 ra0 ra3 o' hx) 12 ra0 (by decide) rfl vw_X12_isList ml_X12_247 (by decide) rfl hl.1 rfl (Nat.le_of_ble_eq_true rfl) dX12_model_7) hf (fun r1 h H locs rr1 hp hf => ?_)
  refine z_jn hf (fun j => ∀  (h : HF) (H : Heap) (locs : List Loc) (ls : Array Slot), Hp g B s h H locs → lv_has ls 7 [] → j  h = some o → W p l e (rmn 19) s m args below meth c H locs 0 0 Q (F0 m 22 ls [])) ?_ (fun j22 hj22 hf => ?_)
  · intro  h H locs ls  hp hl hf
    refine z_bipush cx (by decide) dX12_model_22 ?_
    rw [hQ]; exact z_iret cx hp (by decide) dX12_model_24 hf
  refine z_if_eq cx rr1 (tgt := 22) dX12_model_10 (by decide) hf (fun _ hf => ?_) (fun _ hf => ?_)
  · exact hj22  h _ _ ls  hp (lv_sub hl [] rfl) hf
  · refine lv_aload_n cx.1 cx.2.1 dX12_model_13 rfl (lv_at hl 0 rfl) ?_
    refine lv_iload cx.1 cx.2.1 dX12_model_14 (lv_at hl 5 rfl) ?_
    refine z_ci cx hp (fun o' hx => zrunV (n := 19) (As := [.int (ii a5)]) (rest := []) cx hp (mX12_isDrawer F l g B h a0 a5 ra0 ra5 o' hx) 12 ra0 (by decide) rfl vw_X12_isDrawer ml_X12_146 (by decide) rfl hl.1 rfl (Nat.le_of_ble_eq_true rfl) dX12_model_16) hf (fun r2 h H locs rr2 hp hf => ?_)
    refine z_if_ne cx rr2 (tgt := 25) dX12_model_19 (by decide) hf (fun _ hf => ?_) (fun _ hf => ?_)
    · exact hj22  h _ _ ls  hp (lv_sub hl [] rfl) hf
    · refine lv_aload_n cx.1 cx.2.1 dX12_model_25 rfl (lv_at hl 0 rfl) ?_
      refine lv_iload_n cx.1 cx.2.1 dX12_model_26 rfl (lv_at hl 1 rfl) ?_
      refine lv_iload_n cx.1 cx.2.1 dX12_model_27 rfl (lv_at hl 2 rfl) ?_
      refine lv_iload_n cx.1 cx.2.1 dX12_model_28 rfl (lv_at hl 3 rfl) ?_
      refine z_ci cx hp (fun o' hx => zrunV (n := 19) (As := [.int (ii a1), .int (ii a2), .int (ii a3)]) (rest := []) cx hp (mX12_refuseModels F l g B h a0 a1 a2 a3 ra0 ra1 ra2 ra3 o' hx) 12 ra0 (by decide) rfl vw_X12_refuseModels ml_X12_418 (by decide) rfl hl.1 rfl (Nat.le_of_ble_eq_true rfl) dX12_model_29) hf (fun r3 h H locs rr3 hp hf => ?_)
      refine lv_istore (lv' := [(6, .int (ii r3)), (0, .ref (B + a0)), (1, .int (ii a1)), (2, .int (ii a2)), (3, .int (ii a3)), (4, .int (ii a4)), (5, .int (ii a5))]) cx.1 cx.2.1 dX12_model_32 hl (by decide) rfl (fun ls hl => ?_)
      refine lv_iload cx.1 cx.2.1 dX12_model_34 (lv_at hl 0 rfl) ?_
      refine z_if_eq cx rr3 (tgt := 42) dX12_model_36 (by decide) hf (fun _ hf => ?_) (fun _ hf => ?_)
      · refine lv_iload cx.1 cx.2.1 dX12_model_42 (lv_at hl 5 rfl) ?_
        refine z_jn hf (fun j => ∀  (h : HF) (H : Heap) (locs : List Loc) (ls : Array Slot), Hp g B s h H locs → lv_has ls 7 [] → j  h = some o → W p l e (rmn 19) s m args below meth c H locs 0 0 Q (F0 m 58 ls [])) ?_ (fun j58 hj58 hf => ?_)
        · intro  h H locs ls  hp hl hf
          refine z_bipush cx (by decide) dX12_model_58 ?_
          rw [hQ]; exact z_iret cx hp (by decide) dX12_model_60 hf
        refine z_if_lt cx ra4 (tgt := 58) dX12_model_44 (by decide) hf (fun _ hf => ?_) (fun _ hf => ?_)
        · exact hj58  h _ _ ls  hp (lv_sub hl [] rfl) hf
        · refine lv_aload_n cx.1 cx.2.1 dX12_model_47 rfl (lv_at hl 1 rfl) ?_
          refine lv_iload_n cx.1 cx.2.1 dX12_model_48 rfl (lv_at hl 4 rfl) ?_
          refine z_iconst cx dX12_model_49 ?_
          refine lv_iload cx.1 cx.2.1 dX12_model_50 (lv_at hl 5 rfl) ?_
          refine z_ci cx hp (fun o' hx => zrunV (n := 19) (As := [.int (ii a3), .int (ii 1), .int (ii a4)]) (rest := []) cx hp (mX12_findModel F l g B h a0 a3 1 a4 ra0 ra3 (by decide) ra4 o' hx) 12 ra0 (by decide) rfl vw_X12_findModel ml_X12_421 (by decide) rfl hl.1 rfl (Nat.le_of_ble_eq_true rfl) dX12_model_52) hf (fun r4 h H locs rr4 hp hf => ?_)
          refine z_if_ne cx rr4 (tgt := 61) dX12_model_55 (by decide) hf (fun _ hf => ?_) (fun _ hf => ?_)
          · exact hj58  h _ _ ls  hp (lv_sub hl [] rfl) hf
          · refine lv_aload_n cx.1 cx.2.1 dX12_model_61 rfl (lv_at hl 1 rfl) ?_
            refine lv_iload cx.1 cx.2.1 dX12_model_62 (lv_at hl 6 rfl) ?_
            refine z_cv cx hp (fun o' hx => zrunV (n := 19) (As := [.int (ii a5)]) (rest := []) cx hp (mX12_keep F l g B h a0 a5 ra0 ra5 o' hx) 12 ra0 (by decide) rfl vw_X12_keep ml_X12_153 (by decide) rfl hl.1 rfl (Nat.le_of_ble_eq_true rfl) dX12_model_64) hf (fun _ h H locs hp hf => ?_)
            refine lv_aload_n cx.1 cx.2.1 dX12_model_67 rfl (lv_at hl 1 rfl) ?_
            refine z_bipush cx (by decide) dX12_model_68 ?_
            refine lv_iload cx.1 cx.2.1 dX12_model_70 (lv_at hl 6 rfl) ?_
            refine z_cv cx hp (fun o' hx => zrunV (n := 19) (As := [.int (ii 9), .int (ii a5)]) (rest := []) cx hp (mX12_copy F l g B h a0 9 a5 ra0 (by decide) ra5 o' hx) 12 ra0 (by decide) rfl vw_X12_copy ml_X12_202 (by decide) rfl hl.1 rfl (Nat.le_of_ble_eq_true rfl) dX12_model_72) hf (fun _ h H locs hp hf => ?_)
            refine lv_aload_n cx.1 cx.2.1 dX12_model_75 rfl (lv_at hl 1 rfl) ?_
            refine lv_iload cx.1 cx.2.1 dX12_model_76 (lv_at hl 6 rfl) ?_
            refine z_ci cx hp (fun o' hx => zrunV (n := 19) (As := [.int (ii a5)]) (rest := []) cx hp (mX12_turns F l g B h a0 a5 ra0 ra5 o' hx) 12 ra0 (by decide) rfl vw_X12_turns ml_X12_391 (by decide) rfl hl.1 rfl (Nat.le_of_ble_eq_true rfl) dX12_model_78) hf (fun r7 h H locs rr7 hp hf => ?_)
            rw [hQ]; exact z_iret cx hp rr7 dX12_model_81 hf
      · refine lv_iload cx.1 cx.2.1 dX12_model_39 (lv_at hl 0 rfl) ?_
        rw [hQ]; exact z_iret cx hp rr3 dX12_model_41 hf
theorem dX0_traitSum_0 : decode cX0_traitSum 0 = .ok (.iconst 0, 1) := by decide +kernel
theorem dX0_traitSum_1 : decode cX0_traitSum 1 = .ok (.istore_n 2, 1) := by decide +kernel
theorem dX0_traitSum_2 : decode cX0_traitSum 2 = .ok (.iload_n 2, 1) := by decide +kernel
theorem dX0_traitSum_3 : decode cX0_traitSum 3 = .ok (.aload_n 0, 1) := by decide +kernel
theorem dX0_traitSum_4 : decode cX0_traitSum 4 = .ok (.iload_n 1, 1) := by decide +kernel
theorem dX0_traitSum_5 : decode cX0_traitSum 5 = .ok (.invokevirtual 78, 3) := by decide +kernel
theorem dX0_traitSum_8 : decode cX0_traitSum 8 = .ok (.ifCond .eq 7, 3) := by decide +kernel
theorem dX0_traitSum_11 : decode cX0_traitSum 11 = .ok (.iconst 1, 1) := by decide +kernel
theorem dX0_traitSum_12 : decode cX0_traitSum 12 = .ok (.goto 4, 3) := by decide +kernel
theorem dX0_traitSum_15 : decode cX0_traitSum 15 = .ok (.iconst 0, 1) := by decide +kernel
theorem dX0_traitSum_16 : decode cX0_traitSum 16 = .ok (.iadd, 1) := by decide +kernel
theorem dX0_traitSum_17 : decode cX0_traitSum 17 = .ok (.istore_n 2, 1) := by decide +kernel
theorem dX0_traitSum_18 : decode cX0_traitSum 18 = .ok (.iload_n 2, 1) := by decide +kernel
theorem dX0_traitSum_19 : decode cX0_traitSum 19 = .ok (.aload_n 0, 1) := by decide +kernel
theorem dX0_traitSum_20 : decode cX0_traitSum 20 = .ok (.iload_n 1, 1) := by decide +kernel
theorem dX0_traitSum_21 : decode cX0_traitSum 21 = .ok (.invokevirtual 81, 3) := by decide +kernel
theorem dX0_traitSum_24 : decode cX0_traitSum 24 = .ok (.aload_n 0, 1) := by decide +kernel
theorem dX0_traitSum_25 : decode cX0_traitSum 25 = .ok (.invokevirtual 84, 3) := by decide +kernel
theorem dX0_traitSum_28 : decode cX0_traitSum 28 = .ok (.if_icmp .ne 7, 3) := by decide +kernel
theorem dX0_traitSum_31 : decode cX0_traitSum 31 = .ok (.iconst 2, 1) := by decide +kernel
theorem dX0_traitSum_32 : decode cX0_traitSum 32 = .ok (.goto 4, 3) := by decide +kernel
theorem dX0_traitSum_35 : decode cX0_traitSum 35 = .ok (.iconst 0, 1) := by decide +kernel
theorem dX0_traitSum_36 : decode cX0_traitSum 36 = .ok (.iadd, 1) := by decide +kernel
theorem dX0_traitSum_37 : decode cX0_traitSum 37 = .ok (.istore_n 2, 1) := by decide +kernel
theorem dX0_traitSum_38 : decode cX0_traitSum 38 = .ok (.iload_n 2, 1) := by decide +kernel
theorem dX0_traitSum_39 : decode cX0_traitSum 39 = .ok (.aload_n 0, 1) := by decide +kernel
theorem dX0_traitSum_40 : decode cX0_traitSum 40 = .ok (.iload_n 1, 1) := by decide +kernel
theorem dX0_traitSum_41 : decode cX0_traitSum 41 = .ok (.invokevirtual 87, 3) := by decide +kernel
theorem dX0_traitSum_44 : decode cX0_traitSum 44 = .ok (.ifCond .eq 7, 3) := by decide +kernel
theorem dX0_traitSum_47 : decode cX0_traitSum 47 = .ok (.iconst 4, 1) := by decide +kernel
theorem dX0_traitSum_48 : decode cX0_traitSum 48 = .ok (.goto 4, 3) := by decide +kernel
theorem dX0_traitSum_51 : decode cX0_traitSum 51 = .ok (.iconst 0, 1) := by decide +kernel
theorem dX0_traitSum_52 : decode cX0_traitSum 52 = .ok (.iadd, 1) := by decide +kernel
theorem dX0_traitSum_53 : decode cX0_traitSum 53 = .ok (.istore_n 2, 1) := by decide +kernel
theorem dX0_traitSum_54 : decode cX0_traitSum 54 = .ok (.iload_n 2, 1) := by decide +kernel
theorem dX0_traitSum_55 : decode cX0_traitSum 55 = .ok (.aload_n 0, 1) := by decide +kernel
theorem dX0_traitSum_56 : decode cX0_traitSum 56 = .ok (.iload_n 1, 1) := by decide +kernel
theorem dX0_traitSum_57 : decode cX0_traitSum 57 = .ok (.invokevirtual 90, 3) := by decide +kernel
theorem dX0_traitSum_60 : decode cX0_traitSum 60 = .ok (.ifCond .eq 8, 3) := by decide +kernel
theorem dX0_traitSum_63 : decode cX0_traitSum 63 = .ok (.bipush 8, 2) := by decide +kernel
theorem dX0_traitSum_65 : decode cX0_traitSum 65 = .ok (.goto 4, 3) := by decide +kernel
theorem dX0_traitSum_68 : decode cX0_traitSum 68 = .ok (.iconst 0, 1) := by decide +kernel
theorem dX0_traitSum_69 : decode cX0_traitSum 69 = .ok (.iadd, 1) := by decide +kernel
theorem dX0_traitSum_70 : decode cX0_traitSum 70 = .ok (.istore_n 2, 1) := by decide +kernel
theorem dX0_traitSum_71 : decode cX0_traitSum 71 = .ok (.iload_n 2, 1) := by decide +kernel
theorem dX0_traitSum_72 : decode cX0_traitSum 72 = .ok (.aload_n 0, 1) := by decide +kernel
theorem dX0_traitSum_73 : decode cX0_traitSum 73 = .ok (.iload_n 1, 1) := by decide +kernel
theorem dX0_traitSum_74 : decode cX0_traitSum 74 = .ok (.invokevirtual 93, 3) := by decide +kernel
theorem dX0_traitSum_77 : decode cX0_traitSum 77 = .ok (.ifCond .eq 8, 3) := by decide +kernel
theorem dX0_traitSum_80 : decode cX0_traitSum 80 = .ok (.bipush 16, 2) := by decide +kernel
theorem dX0_traitSum_82 : decode cX0_traitSum 82 = .ok (.goto 4, 3) := by decide +kernel
theorem dX0_traitSum_85 : decode cX0_traitSum 85 = .ok (.iconst 0, 1) := by decide +kernel
theorem dX0_traitSum_86 : decode cX0_traitSum 86 = .ok (.iadd, 1) := by decide +kernel
theorem dX0_traitSum_87 : decode cX0_traitSum 87 = .ok (.istore_n 2, 1) := by decide +kernel
theorem dX0_traitSum_88 : decode cX0_traitSum 88 = .ok (.iload_n 2, 1) := by decide +kernel
theorem dX0_traitSum_89 : decode cX0_traitSum 89 = .ok (.aload_n 0, 1) := by decide +kernel
theorem dX0_traitSum_90 : decode cX0_traitSum 90 = .ok (.iload_n 1, 1) := by decide +kernel
theorem dX0_traitSum_91 : decode cX0_traitSum 91 = .ok (.invokevirtual 96, 3) := by decide +kernel
theorem dX0_traitSum_94 : decode cX0_traitSum 94 = .ok (.ifCond .eq 8, 3) := by decide +kernel
theorem dX0_traitSum_97 : decode cX0_traitSum 97 = .ok (.bipush 32, 2) := by decide +kernel
theorem dX0_traitSum_99 : decode cX0_traitSum 99 = .ok (.goto 4, 3) := by decide +kernel
theorem dX0_traitSum_102 : decode cX0_traitSum 102 = .ok (.iconst 0, 1) := by decide +kernel
theorem dX0_traitSum_103 : decode cX0_traitSum 103 = .ok (.iadd, 1) := by decide +kernel
theorem dX0_traitSum_104 : decode cX0_traitSum 104 = .ok (.istore_n 2, 1) := by decide +kernel
theorem dX0_traitSum_105 : decode cX0_traitSum 105 = .ok (.iload_n 2, 1) := by decide +kernel
theorem dX0_traitSum_106 : decode cX0_traitSum 106 = .ok (.ireturn, 1) := by decide +kernel
def fX0_traitSum (F : Nat) (a0 : Nat) (a1 : Int) (h : HF) : RO :=
  zbd (fX0_isAssociative F a0 a1 h) fun r1 h =>
  zjn (fun (y16_0 : Int) (y16_1 : Int) (h : HF) => (
    zlet (wr (y16_1 + y16_0)) fun x2 =>
    zbd (fX0_centreBits F a0 a1 h) fun r3 h =>
    zbd (fX0_allBits F a0 h) fun r4 h =>
    zjn (fun (y36_0 : Int) (y36_1 : Int) (h : HF) => (
      zlet (wr (y36_1 + y36_0)) fun x5 =>
      zbd (fX0_hasNeutral F a0 a1 h) fun r6 h =>
      zjn (fun (y52_0 : Int) (y52_1 : Int) (h : HF) => (
        zlet (wr (y52_1 + y52_0)) fun x7 =>
        zbd (fX0_isLatin F a0 a1 h) fun r8 h =>
        zjn (fun (y69_0 : Int) (y69_1 : Int) (h : HF) => (
          zlet (wr (y69_1 + y69_0)) fun x9 =>
          zbd (fX0_isIdempotent F a0 a1 h) fun r10 h =>
          zjn (fun (y86_0 : Int) (y86_1 : Int) (h : HF) => (
            zlet (wr (y86_1 + y86_0)) fun x11 =>
            zbd (fX0_isSelfDistributive F a0 a1 h) fun r12 h =>
            zjn (fun (y103_0 : Int) (y103_1 : Int) (h : HF) => (
              zlet (wr (y103_1 + y103_0)) fun x13 =>
              some (x13, h)
            )) fun j103 =>
            if r12 = 0 then (
              j103 0 x11 h
            ) else (
              j103 32 x11 h
            )
          )) fun j86 =>
          if r10 = 0 then (
            j86 0 x9 h
          ) else (
            j86 16 x9 h
          )
        )) fun j69 =>
        if r8 = 0 then (
          j69 0 x7 h
        ) else (
          j69 8 x7 h
        )
      )) fun j52 =>
      if r6 = 0 then (
        j52 0 x5 h
      ) else (
        j52 4 x5 h
      )
    )) fun j36 =>
    if r3 = r4 then (
      j36 2 x2 h
    ) else (
      j36 0 x2 h
    )
  )) fun j16 =>
  if r1 = 0 then (
    j16 0 0 h
  ) else (
    j16 1 0 h
  )
set_option maxHeartbeats 4000000 in
set_option maxRecDepth 100000 in
theorem mX0_traitSum (F : Nat) (l : Launch) (g : zG) (B : Nat) (h : HF) (a0 : Nat) (a1 : Int) (ra0 : kt a0 = 3) (ra1 : rng a1) : CTi l g B yX0_traitSum cX0_traitSum 3 (some .int) 3 [.ref (B + a0), .int (ii a1)] h (fX0_traitSum F a0 a1 h) := by
  refine z_enterI (by decide) rfl (Nat.le_of_ble_eq_true rfl) ?_
  intro p e s m args below meth c ls o Q cx hp hl hf hQ
  have hl : lv_has ls 3 [(0, .ref (B + a0)), (1, .int (ii a1))] := hl
  unfold fX0_traitSum at hf
  refine z_iconst cx dX0_traitSum_0 ?_
  refine lv_istore_n (lv' := [(2, .int (ii 0)), (0, .ref (B + a0)), (1, .int (ii a1))]) cx.1 cx.2.1 dX0_traitSum_1 rfl hl (by decide) rfl (fun ls hl => ?_)
  refine lv_iload_n cx.1 cx.2.1 dX0_traitSum_2 rfl (lv_at hl 0 rfl) ?_
  refine lv_aload_n cx.1 cx.2.1 dX0_traitSum_3 rfl (lv_at hl 1 rfl) ?_
  refine lv_iload_n cx.1 cx.2.1 dX0_traitSum_4 rfl (lv_at hl 2 rfl) ?_
  refine z_ci cx hp (fun o' hx => zrunV (n := 3) (As := [.int (ii a1)]) (rest := [.int (ii 0)]) cx hp (mX0_isAssociative F l g B h a0 a1 ra0 ra1 o' hx) 0 ra0 (by decide) rfl vw_X0_isAssociative ml_X0_78 (by decide) rfl hl.1 rfl (Nat.le_of_ble_eq_true rfl) dX0_traitSum_5) hf (fun r1 h H locs rr1 hp hf => ?_)
  refine z_jn hf (fun j => ∀ (y16_0 : Int) (y16_1 : Int) (h : HF) (H : Heap) (locs : List Loc) (ls : Array Slot), rng y16_0 → rng y16_1 → Hp g B s h H locs → lv_has ls 3 [(0, .ref (B + a0)), (1, .int (ii a1))] → j y16_0 y16_1 h = some o → W p l e (rmn 3) s m args below meth c H locs 0 0 Q (F0 m 16 ls [.int (ii y16_0), .int (ii y16_1)])) ?_ (fun j16 hj16 hf => ?_)
  · intro y16_0 y16_1 h H locs ls ry16_0 ry16_1 hp hl hf
    refine z_iadd cx dX0_traitSum_16 ?_
    refine z_let (rng_wr _) hf (fun x2 rx2 hf => ?_)
    refine lv_istore_n (lv' := [(2, .int (ii x2)), (0, .ref (B + a0)), (1, .int (ii a1))]) cx.1 cx.2.1 dX0_traitSum_17 rfl hl (by decide) rfl (fun ls hl => ?_)
    refine lv_iload_n cx.1 cx.2.1 dX0_traitSum_18 rfl (lv_at hl 0 rfl) ?_
    refine lv_aload_n cx.1 cx.2.1 dX0_traitSum_19 rfl (lv_at hl 1 rfl) ?_
    refine lv_iload_n cx.1 cx.2.1 dX0_traitSum_20 rfl (lv_at hl 2 rfl) ?_
    refine z_ci cx hp (fun o' hx => zrunV (n := 3) (As := [.int (ii a1)]) (rest := [.int (ii x2)]) cx hp (mX0_centreBits F l g B h a0 a1 ra0 ra1 o' hx) 0 ra0 (by decide) rfl vw_X0_centreBits ml_X0_81 (by decide) rfl hl.1 rfl (Nat.le_of_ble_eq_true rfl) dX0_traitSum_21) hf (fun r3 h H locs rr3 hp hf => ?_)
    refine lv_aload_n cx.1 cx.2.1 dX0_traitSum_24 rfl (lv_at hl 1 rfl) ?_
    refine z_ci cx hp (fun o' hx => zrunV (n := 3) (As := []) (rest := [.int (ii r3), .int (ii x2)]) cx hp (mX0_allBits F l g B h a0 ra0 o' hx) 0 ra0 (by decide) rfl vw_X0_allBits ml_X0_84 (by decide) rfl hl.1 rfl (Nat.le_of_ble_eq_true rfl) dX0_traitSum_25) hf (fun r4 h H locs rr4 hp hf => ?_)
    refine z_jn hf (fun j => ∀ (y36_0 : Int) (y36_1 : Int) (h : HF) (H : Heap) (locs : List Loc) (ls : Array Slot), rng y36_0 → rng y36_1 → Hp g B s h H locs → lv_has ls 3 [(0, .ref (B + a0)), (1, .int (ii a1))] → j y36_0 y36_1 h = some o → W p l e (rmn 3) s m args below meth c H locs 0 0 Q (F0 m 36 ls [.int (ii y36_0), .int (ii y36_1)])) ?_ (fun j36 hj36 hf => ?_)
    · intro y36_0 y36_1 h H locs ls ry36_0 ry36_1 hp hl hf
      refine z_iadd cx dX0_traitSum_36 ?_
      refine z_let (rng_wr _) hf (fun x5 rx5 hf => ?_)
      refine lv_istore_n (lv' := [(2, .int (ii x5)), (0, .ref (B + a0)), (1, .int (ii a1))]) cx.1 cx.2.1 dX0_traitSum_37 rfl hl (by decide) rfl (fun ls hl => ?_)
      refine lv_iload_n cx.1 cx.2.1 dX0_traitSum_38 rfl (lv_at hl 0 rfl) ?_
      refine lv_aload_n cx.1 cx.2.1 dX0_traitSum_39 rfl (lv_at hl 1 rfl) ?_
      refine lv_iload_n cx.1 cx.2.1 dX0_traitSum_40 rfl (lv_at hl 2 rfl) ?_
      refine z_ci cx hp (fun o' hx => zrunV (n := 3) (As := [.int (ii a1)]) (rest := [.int (ii x5)]) cx hp (mX0_hasNeutral F l g B h a0 a1 ra0 ra1 o' hx) 0 ra0 (by decide) rfl vw_X0_hasNeutral ml_X0_87 (by decide) rfl hl.1 rfl (Nat.le_of_ble_eq_true rfl) dX0_traitSum_41) hf (fun r6 h H locs rr6 hp hf => ?_)
      refine z_jn hf (fun j => ∀ (y52_0 : Int) (y52_1 : Int) (h : HF) (H : Heap) (locs : List Loc) (ls : Array Slot), rng y52_0 → rng y52_1 → Hp g B s h H locs → lv_has ls 3 [(0, .ref (B + a0)), (1, .int (ii a1))] → j y52_0 y52_1 h = some o → W p l e (rmn 3) s m args below meth c H locs 0 0 Q (F0 m 52 ls [.int (ii y52_0), .int (ii y52_1)])) ?_ (fun j52 hj52 hf => ?_)
      · intro y52_0 y52_1 h H locs ls ry52_0 ry52_1 hp hl hf
        refine z_iadd cx dX0_traitSum_52 ?_
        refine z_let (rng_wr _) hf (fun x7 rx7 hf => ?_)
        refine lv_istore_n (lv' := [(2, .int (ii x7)), (0, .ref (B + a0)), (1, .int (ii a1))]) cx.1 cx.2.1 dX0_traitSum_53 rfl hl (by decide) rfl (fun ls hl => ?_)
        refine lv_iload_n cx.1 cx.2.1 dX0_traitSum_54 rfl (lv_at hl 0 rfl) ?_
        refine lv_aload_n cx.1 cx.2.1 dX0_traitSum_55 rfl (lv_at hl 1 rfl) ?_
        refine lv_iload_n cx.1 cx.2.1 dX0_traitSum_56 rfl (lv_at hl 2 rfl) ?_
        refine z_ci cx hp (fun o' hx => zrunV (n := 3) (As := [.int (ii a1)]) (rest := [.int (ii x7)]) cx hp (mX0_isLatin F l g B h a0 a1 ra0 ra1 o' hx) 0 ra0 (by decide) rfl vw_X0_isLatin ml_X0_90 (by decide) rfl hl.1 rfl (Nat.le_of_ble_eq_true rfl) dX0_traitSum_57) hf (fun r8 h H locs rr8 hp hf => ?_)
        refine z_jn hf (fun j => ∀ (y69_0 : Int) (y69_1 : Int) (h : HF) (H : Heap) (locs : List Loc) (ls : Array Slot), rng y69_0 → rng y69_1 → Hp g B s h H locs → lv_has ls 3 [(0, .ref (B + a0)), (1, .int (ii a1))] → j y69_0 y69_1 h = some o → W p l e (rmn 3) s m args below meth c H locs 0 0 Q (F0 m 69 ls [.int (ii y69_0), .int (ii y69_1)])) ?_ (fun j69 hj69 hf => ?_)
        · intro y69_0 y69_1 h H locs ls ry69_0 ry69_1 hp hl hf
          refine z_iadd cx dX0_traitSum_69 ?_
          refine z_let (rng_wr _) hf (fun x9 rx9 hf => ?_)
          refine lv_istore_n (lv' := [(2, .int (ii x9)), (0, .ref (B + a0)), (1, .int (ii a1))]) cx.1 cx.2.1 dX0_traitSum_70 rfl hl (by decide) rfl (fun ls hl => ?_)
          refine lv_iload_n cx.1 cx.2.1 dX0_traitSum_71 rfl (lv_at hl 0 rfl) ?_
          refine lv_aload_n cx.1 cx.2.1 dX0_traitSum_72 rfl (lv_at hl 1 rfl) ?_
          refine lv_iload_n cx.1 cx.2.1 dX0_traitSum_73 rfl (lv_at hl 2 rfl) ?_
          refine z_ci cx hp (fun o' hx => zrunV (n := 3) (As := [.int (ii a1)]) (rest := [.int (ii x9)]) cx hp (mX0_isIdempotent F l g B h a0 a1 ra0 ra1 o' hx) 0 ra0 (by decide) rfl vw_X0_isIdempotent ml_X0_93 (by decide) rfl hl.1 rfl (Nat.le_of_ble_eq_true rfl) dX0_traitSum_74) hf (fun r10 h H locs rr10 hp hf => ?_)
          refine z_jn hf (fun j => ∀ (y86_0 : Int) (y86_1 : Int) (h : HF) (H : Heap) (locs : List Loc) (ls : Array Slot), rng y86_0 → rng y86_1 → Hp g B s h H locs → lv_has ls 3 [(0, .ref (B + a0)), (1, .int (ii a1))] → j y86_0 y86_1 h = some o → W p l e (rmn 3) s m args below meth c H locs 0 0 Q (F0 m 86 ls [.int (ii y86_0), .int (ii y86_1)])) ?_ (fun j86 hj86 hf => ?_)
          · intro y86_0 y86_1 h H locs ls ry86_0 ry86_1 hp hl hf
            refine z_iadd cx dX0_traitSum_86 ?_
            refine z_let (rng_wr _) hf (fun x11 rx11 hf => ?_)
            refine lv_istore_n (lv' := [(2, .int (ii x11)), (0, .ref (B + a0)), (1, .int (ii a1))]) cx.1 cx.2.1 dX0_traitSum_87 rfl hl (by decide) rfl (fun ls hl => ?_)
            refine lv_iload_n cx.1 cx.2.1 dX0_traitSum_88 rfl (lv_at hl 0 rfl) ?_
            refine lv_aload_n cx.1 cx.2.1 dX0_traitSum_89 rfl (lv_at hl 1 rfl) ?_
            refine lv_iload_n cx.1 cx.2.1 dX0_traitSum_90 rfl (lv_at hl 2 rfl) ?_
            refine z_ci cx hp (fun o' hx => zrunV (n := 3) (As := [.int (ii a1)]) (rest := [.int (ii x11)]) cx hp (mX0_isSelfDistributive F l g B h a0 a1 ra0 ra1 o' hx) 0 ra0 (by decide) rfl vw_X0_isSelfDistributive ml_X0_96 (by decide) rfl hl.1 rfl (Nat.le_of_ble_eq_true rfl) dX0_traitSum_91) hf (fun r12 h H locs rr12 hp hf => ?_)
            refine z_jn hf (fun j => ∀ (y103_0 : Int) (y103_1 : Int) (h : HF) (H : Heap) (locs : List Loc) (ls : Array Slot), rng y103_0 → rng y103_1 → Hp g B s h H locs → lv_has ls 3 [] → j y103_0 y103_1 h = some o → W p l e (rmn 3) s m args below meth c H locs 0 0 Q (F0 m 103 ls [.int (ii y103_0), .int (ii y103_1)])) ?_ (fun j103 hj103 hf => ?_)
            · intro y103_0 y103_1 h H locs ls ry103_0 ry103_1 hp hl hf
              refine z_iadd cx dX0_traitSum_103 ?_
              refine z_let (rng_wr _) hf (fun x13 rx13 hf => ?_)
              refine lv_istore_n (lv' := [(2, .int (ii x13))]) cx.1 cx.2.1 dX0_traitSum_104 rfl hl (by decide) rfl (fun ls hl => ?_)
              refine lv_iload_n cx.1 cx.2.1 dX0_traitSum_105 rfl (lv_at hl 0 rfl) ?_
              rw [hQ]; exact z_iret cx hp rx13 dX0_traitSum_106 hf
            refine z_if_eq cx rr12 (tgt := 102) dX0_traitSum_94 (by decide) hf (fun _ hf => ?_) (fun _ hf => ?_)
            · refine z_iconst cx dX0_traitSum_102 ?_
              exact hj103 0 x11 h _ _ ls (by decide) rx11 hp (lv_sub hl [] rfl) hf
            · refine z_bipush cx (by decide) dX0_traitSum_97 ?_
              refine lv_goto (tgt := 103) cx.1 cx.2.1 dX0_traitSum_99 (by decide) ?_
              exact hj103 32 x11 h _ _ ls (by decide) rx11 hp (lv_sub hl [] rfl) hf
          refine z_if_eq cx rr10 (tgt := 85) dX0_traitSum_77 (by decide) hf (fun _ hf => ?_) (fun _ hf => ?_)
          · refine z_iconst cx dX0_traitSum_85 ?_
            exact hj86 0 x9 h _ _ ls (by decide) rx9 hp (lv_sub hl [1, 2] rfl) hf
          · refine z_bipush cx (by decide) dX0_traitSum_80 ?_
            refine lv_goto (tgt := 86) cx.1 cx.2.1 dX0_traitSum_82 (by decide) ?_
            exact hj86 16 x9 h _ _ ls (by decide) rx9 hp (lv_sub hl [1, 2] rfl) hf
        refine z_if_eq cx rr8 (tgt := 68) dX0_traitSum_60 (by decide) hf (fun _ hf => ?_) (fun _ hf => ?_)
        · refine z_iconst cx dX0_traitSum_68 ?_
          exact hj69 0 x7 h _ _ ls (by decide) rx7 hp (lv_sub hl [1, 2] rfl) hf
        · refine z_bipush cx (by decide) dX0_traitSum_63 ?_
          refine lv_goto (tgt := 69) cx.1 cx.2.1 dX0_traitSum_65 (by decide) ?_
          exact hj69 8 x7 h _ _ ls (by decide) rx7 hp (lv_sub hl [1, 2] rfl) hf
      refine z_if_eq cx rr6 (tgt := 51) dX0_traitSum_44 (by decide) hf (fun _ hf => ?_) (fun _ hf => ?_)
      · refine z_iconst cx dX0_traitSum_51 ?_
        exact hj52 0 x5 h _ _ ls (by decide) rx5 hp (lv_sub hl [1, 2] rfl) hf
      · refine z_iconst cx dX0_traitSum_47 ?_
        refine lv_goto (tgt := 52) cx.1 cx.2.1 dX0_traitSum_48 (by decide) ?_
        exact hj52 4 x5 h _ _ ls (by decide) rx5 hp (lv_sub hl [1, 2] rfl) hf
    refine z_icmp_ne cx rr3 rr4 (tgt := 35) dX0_traitSum_28 (by decide) hf (fun _ hf => ?_) (fun _ hf => ?_)
    · refine z_iconst cx dX0_traitSum_31 ?_
      refine lv_goto (tgt := 36) cx.1 cx.2.1 dX0_traitSum_32 (by decide) ?_
      exact hj36 2 x2 h _ _ ls (by decide) rx2 hp (lv_sub hl [1, 2] rfl) hf
    · refine z_iconst cx dX0_traitSum_35 ?_
      exact hj36 0 x2 h _ _ ls (by decide) rx2 hp (lv_sub hl [1, 2] rfl) hf
  refine z_if_eq cx rr1 (tgt := 15) dX0_traitSum_8 (by decide) hf (fun _ hf => ?_) (fun _ hf => ?_)
  · refine z_iconst cx dX0_traitSum_15 ?_
    exact hj16 0 0 h _ _ ls (by decide) (by decide) hp (lv_sub hl [1, 2] rfl) hf
  · refine z_iconst cx dX0_traitSum_11 ?_
    refine lv_goto (tgt := 16) cx.1 cx.2.1 dX0_traitSum_12 (by decide) ?_
    exact hj16 1 0 h _ _ ls (by decide) (by decide) hp (lv_sub hl [1, 2] rfl) hf
theorem dX0_grown_0 : decode cX0_grown 0 = .ok (.iload_n 1, 1) := by decide +kernel
theorem dX0_grown_1 : decode cX0_grown 1 = .ok (.istore_n 2, 1) := by decide +kernel
theorem dX0_grown_2 : decode cX0_grown 2 = .ok (.iconst 0, 1) := by decide +kernel
theorem dX0_grown_3 : decode cX0_grown 3 = .ok (.istore_n 3, 1) := by decide +kernel
theorem dX0_grown_4 : decode cX0_grown 4 = .ok (.iload_n 3, 1) := by decide +kernel
theorem dX0_grown_5 : decode cX0_grown 5 = .ok (.aload_n 0, 1) := by decide +kernel
theorem dX0_grown_6 : decode cX0_grown 6 = .ok (.getfield 29, 3) := by decide +kernel
theorem dX0_grown_9 : decode cX0_grown 9 = .ok (.if_icmp .ge 82, 3) := by decide +kernel
theorem dX0_grown_12 : decode cX0_grown 12 = .ok (.aload_n 0, 1) := by decide +kernel
theorem dX0_grown_13 : decode cX0_grown 13 = .ok (.getfield 9, 3) := by decide +kernel
theorem dX0_grown_16 : decode cX0_grown 16 = .ok (.iload_n 3, 1) := by decide +kernel
theorem dX0_grown_17 : decode cX0_grown 17 = .ok (.iaload, 1) := by decide +kernel
theorem dX0_grown_18 : decode cX0_grown 18 = .ok (.ifCond .ne 7, 3) := by decide +kernel
theorem dX0_grown_21 : decode cX0_grown 21 = .ok (.iconst 1, 1) := by decide +kernel
theorem dX0_grown_22 : decode cX0_grown 22 = .ok (.goto 4, 3) := by decide +kernel
theorem dX0_grown_25 : decode cX0_grown 25 = .ok (.iload_n 1, 1) := by decide +kernel
theorem dX0_grown_26 : decode cX0_grown 26 = .ok (.istore 4, 2) := by decide +kernel
theorem dX0_grown_28 : decode cX0_grown 28 = .ok (.aload_n 0, 1) := by decide +kernel
theorem dX0_grown_29 : decode cX0_grown 29 = .ok (.getfield 9, 3) := by decide +kernel
theorem dX0_grown_32 : decode cX0_grown 32 = .ok (.iload_n 3, 1) := by decide +kernel
theorem dX0_grown_33 : decode cX0_grown 33 = .ok (.iaload, 1) := by decide +kernel
theorem dX0_grown_34 : decode cX0_grown 34 = .ok (.iconst 2, 1) := by decide +kernel
theorem dX0_grown_35 : decode cX0_grown 35 = .ok (.if_icmp .ne 7, 3) := by decide +kernel
theorem dX0_grown_38 : decode cX0_grown 38 = .ok (.iload_n 1, 1) := by decide +kernel
theorem dX0_grown_39 : decode cX0_grown 39 = .ok (.goto 4, 3) := by decide +kernel
theorem dX0_grown_42 : decode cX0_grown 42 = .ok (.iconst 1, 1) := by decide +kernel
theorem dX0_grown_43 : decode cX0_grown 43 = .ok (.istore 5, 2) := by decide +kernel
theorem dX0_grown_45 : decode cX0_grown 45 = .ok (.iconst 0, 1) := by decide +kernel
theorem dX0_grown_46 : decode cX0_grown 46 = .ok (.istore 6, 2) := by decide +kernel
theorem dX0_grown_48 : decode cX0_grown 48 = .ok (.iload 6, 2) := by decide +kernel
theorem dX0_grown_50 : decode cX0_grown 50 = .ok (.aload_n 0, 1) := by decide +kernel
theorem dX0_grown_51 : decode cX0_grown 51 = .ok (.getfield 21, 3) := by decide +kernel
theorem dX0_grown_54 : decode cX0_grown 54 = .ok (.if_icmp .ge 31, 3) := by decide +kernel
theorem dX0_grown_57 : decode cX0_grown 57 = .ok (.iload 4, 2) := by decide +kernel
theorem dX0_grown_59 : decode cX0_grown 59 = .ok (.iload 6, 2) := by decide +kernel
theorem dX0_grown_61 : decode cX0_grown 61 = .ok (.invokestatic 102, 3) := by decide +kernel
theorem dX0_grown_64 : decode cX0_grown 64 = .ok (.ifCond .eq 15, 3) := by decide +kernel
theorem dX0_grown_67 : decode cX0_grown 67 = .ok (.iload_n 2, 1) := by decide +kernel
theorem dX0_grown_68 : decode cX0_grown 68 = .ok (.aload_n 0, 1) := by decide +kernel
theorem dX0_grown_69 : decode cX0_grown 69 = .ok (.iload_n 3, 1) := by decide +kernel
theorem dX0_grown_70 : decode cX0_grown 70 = .ok (.iload 6, 2) := by decide +kernel
theorem dX0_grown_72 : decode cX0_grown 72 = .ok (.iload 5, 2) := by decide +kernel
theorem dX0_grown_74 : decode cX0_grown 74 = .ok (.invokevirtual 106, 3) := by decide +kernel
theorem dX0_grown_77 : decode cX0_grown 77 = .ok (.ior, 1) := by decide +kernel
theorem dX0_grown_78 : decode cX0_grown 78 = .ok (.istore_n 2, 1) := by decide +kernel
theorem dX0_grown_79 : decode cX0_grown 79 = .ok (.iinc 6 1, 3) := by decide +kernel
theorem dX0_grown_82 : decode cX0_grown 82 = .ok (.goto (-34), 3) := by decide +kernel
theorem dX0_grown_85 : decode cX0_grown 85 = .ok (.iinc 3 1, 3) := by decide +kernel
theorem dX0_grown_88 : decode cX0_grown 88 = .ok (.goto (-84), 3) := by decide +kernel
theorem dX0_grown_91 : decode cX0_grown 91 = .ok (.iload_n 2, 1) := by decide +kernel
theorem dX0_grown_92 : decode cX0_grown 92 = .ok (.ireturn, 1) := by decide +kernel
def LX0_grown_48 (F : Nat) (u0 : Nat) (u1 : Int) (u3 : Int) (u4 : Int) (u5 : Int) (k85 : Int → Int → HF → RO) : Nat → Int → Int → HF → RO
  | 0, _, _, _ => none
  | n + 1, v2, v6, h =>
    zgf h u0 0 fun x5 =>
    if v6 < x5 then (
      zbd (fX11_hasBit F u4 v6 h) fun r6 h =>
      zjn (fun (x79_2 : Int) (x79_6 : Int) (h : HF) => (
        zlet (wr (x79_6 + 1)) fun x7 =>
        LX0_grown_48 F u0 u1 u3 u4 u5 k85 n x79_2 x7 h
      )) fun j79 =>
      if r6 = 0 then (
        j79 v2 v6 h
      ) else (
        zbd (fX0_rowValues F u0 u3 v6 u5 h) fun r8 h =>
        zlet (wor v2 r8) fun x9 =>
        j79 x9 v6 h
      )
    ) else (
      k85 v2 u3 h
    )
set_option maxHeartbeats 4000000 in
set_option maxRecDepth 100000 in
theorem wX0_grown_48 {p : Program} {l : Launch} {e : Env} {s : State} {m : MethodId} {args : Array Value} {below : List Frame} {meth : Method} {c : Code} {Q : State → Prop} {g : zG} {B : Nat} {o : Int × HF} (F : Nat) (cx : Cx p s m args meth c cX0_grown 7 RX0 (some .int) g B) (u0 : Nat) (ru0 : kt u0 = 3) (u1 : Int) (ru1 : rng u1) (u3 : Int) (ru3 : rng u3) (u4 : Int) (ru4 : rng u4) (u5 : Int) (ru5 : rng u5) (k85 : Int → Int → HF → RO) (hk85 : ∀ (x2 : Int) (x3 : Int) (h : HF) (H : Heap) (locs : List Loc) (ls : Array Slot), rng x2 → rng x3 → Hp g B s h H locs → lv_has ls 7 [(0, .ref (B + u0)), (1, .int (ii u1)), (2, .int (ii x2)), (3, .int (ii x3))] → k85 x2 x3 h = some o → W p l e (rmn 3) s m args below meth c H locs 0 0 Q (F0 m 85 ls [])) : ∀ (n : Nat) (v2 : Int) (v6 : Int) (h : HF) (H : Heap) (locs : List Loc) (ls : Array Slot), rng v2 → rng v6 → Hp g B s h H locs → lv_has ls 7 [(0, .ref (B + u0)), (1, .int (ii u1)), (2, .int (ii v2)), (3, .int (ii u3)), (4, .int (ii u4)), (5, .int (ii u5)), (6, .int (ii v6))] → LX0_grown_48 F u0 u1 u3 u4 u5 k85 n v2 v6 h = some o → W p l e (rmn 3) s m args below meth c H locs 0 0 Q (F0 m 48 ls []) := by
  intro n
  induction n with
  | zero =>
    intro v2 v6 h H locs ls rv2 rv6 hp hl hf
    cases hf
  | succ n ih =>
    intro v2 v6 h H locs ls rv2 rv6 hp hl hf
    rw [LX0_grown_48] at hf
    refine lv_iload cx.1 cx.2.1 dX0_grown_48 (lv_at hl 6 rfl) ?_
    refine lv_aload_n cx.1 cx.2.1 dX0_grown_50 rfl (lv_at hl 0 rfl) ?_
    refine z_geti cx hp (T := TX0) 0 0 rfl zin_0 (by decide) (by decide) ru0 rfl fl_X0_21 dX0_grown_51 hf (fun x5 rx5 hf => ?_)
    refine z_icmp_ge cx rv6 rx5 (tgt := 85) dX0_grown_54 (by decide) hf (fun _ hf => ?_) (fun _ hf => ?_)
    · refine lv_iload cx.1 cx.2.1 dX0_grown_57 (lv_at hl 4 rfl) ?_
      refine lv_iload cx.1 cx.2.1 dX0_grown_59 (lv_at hl 6 rfl) ?_
      refine z_ci cx hp (fun o' hx => zrunSN (n := 3) (As := [.int (ii u4), .int (ii v6)]) (rest := []) cx hp (mX11_hasBit F l g B h u4 v6 ru4 rv6 o' hx) sw_X11_hasBit mn_X0_102 (by decide) rfl hl.1 rfl (Nat.le_of_ble_eq_true rfl) dX0_grown_61) hf (fun r6 h H locs rr6 hp hf => ?_)
      refine z_jn hf (fun j => ∀ (x79_2 : Int) (x79_6 : Int) (h : HF) (H : Heap) (locs : List Loc) (ls : Array Slot), rng x79_2 → rng x79_6 → Hp g B s h H locs → lv_has ls 7 [(0, .ref (B + u0)), (1, .int (ii u1)), (2, .int (ii x79_2)), (3, .int (ii u3)), (4, .int (ii u4)), (5, .int (ii u5)), (6, .int (ii x79_6))] → j x79_2 x79_6 h = some o → W p l e (rmn 3) s m args below meth c H locs 0 0 Q (F0 m 79 ls [])) ?_ (fun j79 hj79 hf => ?_)
      · intro x79_2 x79_6 h H locs ls rx79_2 rx79_6 hp hl hf
        refine z_iinc cx (fun x7 => [(6, .int (ii x7)), (0, .ref (B + u0)), (1, .int (ii u1)), (2, .int (ii x79_2)), (3, .int (ii u3)), (4, .int (ii u4)), (5, .int (ii u5))]) dX0_grown_79 hl (k := 6) rfl (by decide) (fun _ => rfl) hf (fun x7 rx7 hf ls hl => ?_)
        refine lv_goto (tgt := 48) cx.1 cx.2.1 dX0_grown_82 (by decide) ?_
        exact ih x79_2 x7 h _ _ ls rx79_2 rx7 hp (lv_sub hl [1, 2, 3, 4, 5, 6, 0] rfl) hf
      refine z_if_eq cx rr6 (tgt := 79) dX0_grown_64 (by decide) hf (fun _ hf => ?_) (fun _ hf => ?_)
      · exact hj79 v2 v6 h _ _ ls rv2 rv6 hp (lv_sub hl [0, 1, 2, 3, 4, 5, 6] rfl) hf
      · refine lv_iload_n cx.1 cx.2.1 dX0_grown_67 rfl (lv_at hl 2 rfl) ?_
        refine lv_aload_n cx.1 cx.2.1 dX0_grown_68 rfl (lv_at hl 0 rfl) ?_
        refine lv_iload_n cx.1 cx.2.1 dX0_grown_69 rfl (lv_at hl 3 rfl) ?_
        refine lv_iload cx.1 cx.2.1 dX0_grown_70 (lv_at hl 6 rfl) ?_
        refine lv_iload cx.1 cx.2.1 dX0_grown_72 (lv_at hl 5 rfl) ?_
        refine z_ci cx hp (fun o' hx => zrunV (n := 3) (As := [.int (ii u3), .int (ii v6), .int (ii u5)]) (rest := [.int (ii v2)]) cx hp (mX0_rowValues F l g B h u0 u3 v6 u5 ru0 ru3 rv6 ru5 o' hx) 0 ru0 (by decide) rfl vw_X0_rowValues ml_X0_106 (by decide) rfl hl.1 rfl (Nat.le_of_ble_eq_true rfl) dX0_grown_74) hf (fun r8 h H locs rr8 hp hf => ?_)
        refine z_ior cx dX0_grown_77 ?_
        refine z_let (rng_or _ _) hf (fun x9 rx9 hf => ?_)
        refine lv_istore_n (lv' := [(2, .int (ii x9)), (0, .ref (B + u0)), (1, .int (ii u1)), (3, .int (ii u3)), (4, .int (ii u4)), (5, .int (ii u5)), (6, .int (ii v6))]) cx.1 cx.2.1 dX0_grown_78 rfl hl (by decide) rfl (fun ls hl => ?_)
        exact hj79 x9 v6 h _ _ ls rx9 rv6 hp (lv_sub hl [1, 2, 0, 3, 4, 5, 6] rfl) hf
    · exact hk85 v2 u3 h _ _ ls rv2 ru3 hp (lv_sub hl [0, 1, 2, 3] rfl) hf
def LX0_grown_4 (F : Nat) (u0 : Nat) (u1 : Int) (k91 : Int → HF → RO) : Nat → Int → Int → HF → RO
  | 0, _, _, _ => none
  | n + 1, v2, v3, h =>
    zgf h u0 1 fun x1 =>
    if v3 < x1 then (
      zrd h (u0 + 1) v3 fun x2 =>
      zjn (fun (x26_2 : Int) (x26_3 : Int) (y26_0 : Int) (h : HF) => (
        zrd h (u0 + 1) x26_3 fun x3 =>
        zjn (fun (x43_2 : Int) (x43_3 : Int) (x43_4 : Int) (y43_0 : Int) (h : HF) => (
          zjn (fun (x85_2 : Int) (x85_3 : Int) (h : HF) => (
            zlet (wr (x85_3 + 1)) fun x4 =>
            LX0_grown_4 F u0 u1 k91 n x85_2 x4 h
          )) fun j85 =>
          LX0_grown_48 F u0 u1 x43_3 x43_4 y43_0 j85 F x43_2 0 h
        )) fun j43 =>
        if x3 = 2 then (
          j43 x26_2 x26_3 y26_0 u1 h
        ) else (
          j43 x26_2 x26_3 y26_0 1 h
        )
      )) fun j26 =>
      if x2 = 0 then (
        j26 v2 v3 1 h
      ) else (
        j26 v2 v3 u1 h
      )
    ) else (
      k91 v2 h
    )
set_option maxHeartbeats 4000000 in
set_option maxRecDepth 100000 in
theorem wX0_grown_4 {p : Program} {l : Launch} {e : Env} {s : State} {m : MethodId} {args : Array Value} {below : List Frame} {meth : Method} {c : Code} {Q : State → Prop} {g : zG} {B : Nat} {o : Int × HF} (F : Nat) (cx : Cx p s m args meth c cX0_grown 7 RX0 (some .int) g B) (u0 : Nat) (ru0 : kt u0 = 3) (u1 : Int) (ru1 : rng u1) (k91 : Int → HF → RO) (hk91 : ∀ (x2 : Int) (h : HF) (H : Heap) (locs : List Loc) (ls : Array Slot), rng x2 → Hp g B s h H locs → lv_has ls 7 [(2, .int (ii x2))] → k91 x2 h = some o → W p l e (rmn 3) s m args below meth c H locs 0 0 Q (F0 m 91 ls [])) : ∀ (n : Nat) (v2 : Int) (v3 : Int) (h : HF) (H : Heap) (locs : List Loc) (ls : Array Slot), rng v2 → rng v3 → Hp g B s h H locs → lv_has ls 7 [(0, .ref (B + u0)), (1, .int (ii u1)), (2, .int (ii v2)), (3, .int (ii v3))] → LX0_grown_4 F u0 u1 k91 n v2 v3 h = some o → W p l e (rmn 3) s m args below meth c H locs 0 0 Q (F0 m 4 ls []) := by
  intro n
  induction n with
  | zero =>
    intro v2 v3 h H locs ls rv2 rv3 hp hl hf
    cases hf
  | succ n ih =>
    intro v2 v3 h H locs ls rv2 rv3 hp hl hf
    rw [LX0_grown_4] at hf
    refine lv_iload_n cx.1 cx.2.1 dX0_grown_4 rfl (lv_at hl 3 rfl) ?_
    refine lv_aload_n cx.1 cx.2.1 dX0_grown_5 rfl (lv_at hl 0 rfl) ?_
    refine z_geti cx hp (T := TX0) 0 1 rfl zin_0 (by decide) (by decide) ru0 rfl fl_X0_29 dX0_grown_6 hf (fun x1 rx1 hf => ?_)
    refine z_icmp_ge cx rv3 rx1 (tgt := 91) dX0_grown_9 (by decide) hf (fun _ hf => ?_) (fun _ hf => ?_)
    · refine lv_aload_n cx.1 cx.2.1 dX0_grown_12 rfl (lv_at hl 0 rfl) ?_
      refine z_gets cx hp (T := TX0) 0 3 (u0 + 1) rfl zin_0 (by decide) (by decide) ru0 rfl fl_X0_9 dX0_grown_13 ?_
      refine lv_iload_n cx.1 cx.2.1 dX0_grown_16 rfl (lv_at hl 3 rfl) ?_
      refine z_iald cx hp (zs_0_3 u0 (kt_lt ru0 (by decide)) ru0) rv3 dX0_grown_17 hf (fun x2 rx2 hf => ?_)
      refine z_jn hf (fun j => ∀ (x26_2 : Int) (x26_3 : Int) (y26_0 : Int) (h : HF) (H : Heap) (locs : List Loc) (ls : Array Slot), rng x26_2 → rng x26_3 → rng y26_0 → Hp g B s h H locs → lv_has ls 7 [(0, .ref (B + u0)), (1, .int (ii u1)), (2, .int (ii x26_2)), (3, .int (ii x26_3))] → j x26_2 x26_3 y26_0 h = some o → W p l e (rmn 3) s m args below meth c H locs 0 0 Q (F0 m 26 ls [.int (ii y26_0)])) ?_ (fun j26 hj26 hf => ?_)
      · intro x26_2 x26_3 y26_0 h H locs ls rx26_2 rx26_3 ry26_0 hp hl hf
        refine lv_istore (lv' := [(4, .int (ii y26_0)), (0, .ref (B + u0)), (1, .int (ii u1)), (2, .int (ii x26_2)), (3, .int (ii x26_3))]) cx.1 cx.2.1 dX0_grown_26 hl (by decide) rfl (fun ls hl => ?_)
        refine lv_aload_n cx.1 cx.2.1 dX0_grown_28 rfl (lv_at hl 1 rfl) ?_
        refine z_gets cx hp (T := TX0) 0 3 (u0 + 1) rfl zin_0 (by decide) (by decide) ru0 rfl fl_X0_9 dX0_grown_29 ?_
        refine lv_iload_n cx.1 cx.2.1 dX0_grown_32 rfl (lv_at hl 4 rfl) ?_
        refine z_iald cx hp (zs_0_3 u0 (kt_lt ru0 (by decide)) ru0) rx26_3 dX0_grown_33 hf (fun x3 rx3 hf => ?_)
        refine z_iconst cx dX0_grown_34 ?_
        refine z_jn hf (fun j => ∀ (x43_2 : Int) (x43_3 : Int) (x43_4 : Int) (y43_0 : Int) (h : HF) (H : Heap) (locs : List Loc) (ls : Array Slot), rng x43_2 → rng x43_3 → rng x43_4 → rng y43_0 → Hp g B s h H locs → lv_has ls 7 [(0, .ref (B + u0)), (1, .int (ii u1)), (2, .int (ii x43_2)), (3, .int (ii x43_3)), (4, .int (ii x43_4))] → j x43_2 x43_3 x43_4 y43_0 h = some o → W p l e (rmn 3) s m args below meth c H locs 0 0 Q (F0 m 43 ls [.int (ii y43_0)])) ?_ (fun j43 hj43 hf => ?_)
        · intro x43_2 x43_3 x43_4 y43_0 h H locs ls rx43_2 rx43_3 rx43_4 ry43_0 hp hl hf
          refine lv_istore (lv' := [(5, .int (ii y43_0)), (0, .ref (B + u0)), (1, .int (ii u1)), (2, .int (ii x43_2)), (3, .int (ii x43_3)), (4, .int (ii x43_4))]) cx.1 cx.2.1 dX0_grown_43 hl (by decide) rfl (fun ls hl => ?_)
          refine z_iconst cx dX0_grown_45 ?_
          refine lv_istore (lv' := [(6, .int (ii 0)), (5, .int (ii y43_0)), (0, .ref (B + u0)), (1, .int (ii u1)), (2, .int (ii x43_2)), (3, .int (ii x43_3)), (4, .int (ii x43_4))]) cx.1 cx.2.1 dX0_grown_46 hl (by decide) rfl (fun ls hl => ?_)
          refine z_jn hf (fun j => ∀ (x85_2 : Int) (x85_3 : Int) (h : HF) (H : Heap) (locs : List Loc) (ls : Array Slot), rng x85_2 → rng x85_3 → Hp g B s h H locs → lv_has ls 7 [(0, .ref (B + u0)), (1, .int (ii u1)), (2, .int (ii x85_2)), (3, .int (ii x85_3))] → j x85_2 x85_3 h = some o → W p l e (rmn 3) s m args below meth c H locs 0 0 Q (F0 m 85 ls [])) ?_ (fun j85 hj85 hf => ?_)
          · intro x85_2 x85_3 h H locs ls rx85_2 rx85_3 hp hl hf
            refine z_iinc cx (fun x4 => [(3, .int (ii x4)), (0, .ref (B + u0)), (1, .int (ii u1)), (2, .int (ii x85_2))]) dX0_grown_85 hl (k := 3) rfl (by decide) (fun _ => rfl) hf (fun x4 rx4 hf ls hl => ?_)
            refine lv_goto (tgt := 4) cx.1 cx.2.1 dX0_grown_88 (by decide) ?_
            exact ih x85_2 x4 h _ _ ls rx85_2 rx4 hp (lv_sub hl [1, 2, 3, 0] rfl) hf
          exact wX0_grown_48 F cx u0 ru0 u1 ru1 x43_3 rx43_3 x43_4 rx43_4 y43_0 ry43_0 j85 hj85 F x43_2 0 h _ _ ls rx43_2 (by decide) hp (lv_sub hl [2, 3, 4, 5, 6, 1, 0] rfl) hf
        refine z_icmp_ne cx rx3 (by decide) (tgt := 42) dX0_grown_35 (by decide) hf (fun _ hf => ?_) (fun _ hf => ?_)
        · refine lv_iload_n cx.1 cx.2.1 dX0_grown_38 rfl (lv_at hl 2 rfl) ?_
          refine lv_goto (tgt := 43) cx.1 cx.2.1 dX0_grown_39 (by decide) ?_
          exact hj43 x26_2 x26_3 y26_0 u1 h _ _ ls rx26_2 rx26_3 ry26_0 ru1 hp (lv_sub hl [1, 2, 3, 4, 0] rfl) hf
        · refine z_iconst cx dX0_grown_42 ?_
          exact hj43 x26_2 x26_3 y26_0 1 h _ _ ls rx26_2 rx26_3 ry26_0 (by decide) hp (lv_sub hl [1, 2, 3, 4, 0] rfl) hf
      refine z_if_ne cx rx2 (tgt := 25) dX0_grown_18 (by decide) hf (fun _ hf => ?_) (fun _ hf => ?_)
      · refine z_iconst cx dX0_grown_21 ?_
        refine lv_goto (tgt := 26) cx.1 cx.2.1 dX0_grown_22 (by decide) ?_
        exact hj26 v2 v3 1 h _ _ ls rv2 rv3 (by decide) hp (lv_sub hl [0, 1, 2, 3] rfl) hf
      · refine lv_iload_n cx.1 cx.2.1 dX0_grown_25 rfl (lv_at hl 1 rfl) ?_
        exact hj26 v2 v3 u1 h _ _ ls rv2 rv3 ru1 hp (lv_sub hl [0, 1, 2, 3] rfl) hf
    · exact hk91 v2 h _ _ ls rv2 hp (lv_sub hl [2] rfl) hf
def fX0_grown (F : Nat) (a0 : Nat) (a1 : Int) (h : HF) : RO :=
  zjn (fun (x91_2 : Int) (h : HF) => (
    some (x91_2, h)
  )) fun j91 =>
  LX0_grown_4 F a0 a1 j91 F a1 0 h
set_option maxHeartbeats 4000000 in
set_option maxRecDepth 100000 in
theorem mX0_grown (F : Nat) (l : Launch) (g : zG) (B : Nat) (h : HF) (a0 : Nat) (a1 : Int) (ra0 : kt a0 = 3) (ra1 : rng a1) : CTi l g B yX0_grown cX0_grown 7 (some .int) 3 [.ref (B + a0), .int (ii a1)] h (fX0_grown F a0 a1 h) := by
  refine z_enterI (by decide) rfl (Nat.le_of_ble_eq_true rfl) ?_
  intro p e s m args below meth c ls o Q cx hp hl hf hQ
  have hl : lv_has ls 7 [(0, .ref (B + a0)), (1, .int (ii a1))] := hl
  unfold fX0_grown at hf
  refine lv_iload_n cx.1 cx.2.1 dX0_grown_0 rfl (lv_at hl 1 rfl) ?_
  refine lv_istore_n (lv' := [(2, .int (ii a1)), (0, .ref (B + a0)), (1, .int (ii a1))]) cx.1 cx.2.1 dX0_grown_1 rfl hl (by decide) rfl (fun ls hl => ?_)
  refine z_iconst cx dX0_grown_2 ?_
  refine lv_istore_n (lv' := [(3, .int (ii 0)), (2, .int (ii a1)), (0, .ref (B + a0)), (1, .int (ii a1))]) cx.1 cx.2.1 dX0_grown_3 rfl hl (by decide) rfl (fun ls hl => ?_)
  refine z_jn hf (fun j => ∀ (x91_2 : Int) (h : HF) (H : Heap) (locs : List Loc) (ls : Array Slot), rng x91_2 → Hp g B s h H locs → lv_has ls 7 [(2, .int (ii x91_2))] → j x91_2 h = some o → W p l e (rmn 3) s m args below meth c H locs 0 0 Q (F0 m 91 ls [])) ?_ (fun j91 hj91 hf => ?_)
  · intro x91_2 h H locs ls rx91_2 hp hl hf
    refine lv_iload_n cx.1 cx.2.1 dX0_grown_91 rfl (lv_at hl 0 rfl) ?_
    rw [hQ]; exact z_iret cx hp rx91_2 dX0_grown_92 hf
  exact wX0_grown_4 F cx a0 ra0 a1 ra1 j91 hj91 F a1 0 h _ _ ls ra1 (by decide) hp (lv_sub hl [2, 3, 1, 0] rfl) hf
theorem dX0_closure_0 : decode cX0_closure 0 = .ok (.iload_n 1, 1) := by decide +kernel
theorem dX0_closure_1 : decode cX0_closure 1 = .ok (.istore_n 2, 1) := by decide +kernel
theorem dX0_closure_2 : decode cX0_closure 2 = .ok (.iconst 0, 1) := by decide +kernel
theorem dX0_closure_3 : decode cX0_closure 3 = .ok (.istore_n 3, 1) := by decide +kernel
theorem dX0_closure_4 : decode cX0_closure 4 = .ok (.iload_n 3, 1) := by decide +kernel
theorem dX0_closure_5 : decode cX0_closure 5 = .ok (.aload_n 0, 1) := by decide +kernel
theorem dX0_closure_6 : decode cX0_closure 6 = .ok (.getfield 21, 3) := by decide +kernel
theorem dX0_closure_9 : decode cX0_closure 9 = .ok (.if_icmp .gt 15, 3) := by decide +kernel
theorem dX0_closure_12 : decode cX0_closure 12 = .ok (.aload_n 0, 1) := by decide +kernel
theorem dX0_closure_13 : decode cX0_closure 13 = .ok (.iload_n 2, 1) := by decide +kernel
theorem dX0_closure_14 : decode cX0_closure 14 = .ok (.invokevirtual 109, 3) := by decide +kernel
theorem dX0_closure_17 : decode cX0_closure 17 = .ok (.istore_n 2, 1) := by decide +kernel
theorem dX0_closure_18 : decode cX0_closure 18 = .ok (.iinc 3 1, 3) := by decide +kernel
theorem dX0_closure_21 : decode cX0_closure 21 = .ok (.goto (-17), 3) := by decide +kernel
theorem dX0_closure_24 : decode cX0_closure 24 = .ok (.iload_n 2, 1) := by decide +kernel
theorem dX0_closure_25 : decode cX0_closure 25 = .ok (.ireturn, 1) := by decide +kernel
def LX0_closure_4 (F : Nat) (u0 : Nat) (k24 : Int → HF → RO) : Nat → Int → Int → HF → RO
  | 0, _, _, _ => none
  | n + 1, v2, v3, h =>
    zgf h u0 0 fun x1 =>
    if x1 < v3 then (
      k24 v2 h
    ) else (
      zbd (fX0_grown F u0 v2 h) fun r2 h =>
      zlet (wr (v3 + 1)) fun x3 =>
      LX0_closure_4 F u0 k24 n r2 x3 h
    )
set_option maxHeartbeats 4000000 in
set_option maxRecDepth 100000 in
theorem wX0_closure_4 {p : Program} {l : Launch} {e : Env} {s : State} {m : MethodId} {args : Array Value} {below : List Frame} {meth : Method} {c : Code} {Q : State → Prop} {g : zG} {B : Nat} {o : Int × HF} (F : Nat) (cx : Cx p s m args meth c cX0_closure 4 RX0 (some .int) g B) (u0 : Nat) (ru0 : kt u0 = 3) (k24 : Int → HF → RO) (hk24 : ∀ (x2 : Int) (h : HF) (H : Heap) (locs : List Loc) (ls : Array Slot), rng x2 → Hp g B s h H locs → lv_has ls 4 [(2, .int (ii x2))] → k24 x2 h = some o → W p l e (rmn 4) s m args below meth c H locs 0 0 Q (F0 m 24 ls [])) : ∀ (n : Nat) (v2 : Int) (v3 : Int) (h : HF) (H : Heap) (locs : List Loc) (ls : Array Slot), rng v2 → rng v3 → Hp g B s h H locs → lv_has ls 4 [(0, .ref (B + u0)), (2, .int (ii v2)), (3, .int (ii v3))] → LX0_closure_4 F u0 k24 n v2 v3 h = some o → W p l e (rmn 4) s m args below meth c H locs 0 0 Q (F0 m 4 ls []) := by
  intro n
  induction n with
  | zero =>
    intro v2 v3 h H locs ls rv2 rv3 hp hl hf
    cases hf
  | succ n ih =>
    intro v2 v3 h H locs ls rv2 rv3 hp hl hf
    rw [LX0_closure_4] at hf
    refine lv_iload_n cx.1 cx.2.1 dX0_closure_4 rfl (lv_at hl 2 rfl) ?_
    refine lv_aload_n cx.1 cx.2.1 dX0_closure_5 rfl (lv_at hl 0 rfl) ?_
    refine z_geti cx hp (T := TX0) 0 0 rfl zin_0 (by decide) (by decide) ru0 rfl fl_X0_21 dX0_closure_6 hf (fun x1 rx1 hf => ?_)
    refine z_icmp_gt cx rv3 rx1 (tgt := 24) dX0_closure_9 (by decide) hf (fun _ hf => ?_) (fun _ hf => ?_)
    · exact hk24 v2 h _ _ ls rv2 hp (lv_sub hl [1] rfl) hf
    · refine lv_aload_n cx.1 cx.2.1 dX0_closure_12 rfl (lv_at hl 0 rfl) ?_
      refine lv_iload_n cx.1 cx.2.1 dX0_closure_13 rfl (lv_at hl 1 rfl) ?_
      refine z_ci cx hp (fun o' hx => zrunV (n := 4) (As := [.int (ii v2)]) (rest := []) cx hp (mX0_grown F l g B h u0 v2 ru0 rv2 o' hx) 0 ru0 (by decide) rfl vw_X0_grown ml_X0_109 (by decide) rfl hl.1 rfl (Nat.le_of_ble_eq_true rfl) dX0_closure_14) hf (fun r2 h H locs rr2 hp hf => ?_)
      refine lv_istore_n (lv' := [(2, .int (ii r2)), (0, .ref (B + u0)), (3, .int (ii v3))]) cx.1 cx.2.1 dX0_closure_17 rfl hl (by decide) rfl (fun ls hl => ?_)
      refine z_iinc cx (fun x3 => [(3, .int (ii x3)), (2, .int (ii r2)), (0, .ref (B + u0))]) dX0_closure_18 hl (k := 2) rfl (by decide) (fun _ => rfl) hf (fun x3 rx3 hf ls hl => ?_)
      refine lv_goto (tgt := 4) cx.1 cx.2.1 dX0_closure_21 (by decide) ?_
      exact ih r2 x3 h _ _ ls rr2 rx3 hp (lv_sub hl [2, 1, 0] rfl) hf
def fX0_closure (F : Nat) (a0 : Nat) (a1 : Int) (h : HF) : RO :=
  zjn (fun (x24_2 : Int) (h : HF) => (
    some (x24_2, h)
  )) fun j24 =>
  LX0_closure_4 F a0 j24 F a1 0 h
set_option maxHeartbeats 4000000 in
set_option maxRecDepth 100000 in
theorem mX0_closure (F : Nat) (l : Launch) (g : zG) (B : Nat) (h : HF) (a0 : Nat) (a1 : Int) (ra0 : kt a0 = 3) (ra1 : rng a1) : CTi l g B yX0_closure cX0_closure 4 (some .int) 4 [.ref (B + a0), .int (ii a1)] h (fX0_closure F a0 a1 h) := by
  refine z_enterI (by decide) rfl (Nat.le_of_ble_eq_true rfl) ?_
  intro p e s m args below meth c ls o Q cx hp hl hf hQ
  have hl : lv_has ls 4 [(0, .ref (B + a0)), (1, .int (ii a1))] := hl
  unfold fX0_closure at hf
  refine lv_iload_n cx.1 cx.2.1 dX0_closure_0 rfl (lv_at hl 1 rfl) ?_
  refine lv_istore_n (lv' := [(2, .int (ii a1)), (0, .ref (B + a0)), (1, .int (ii a1))]) cx.1 cx.2.1 dX0_closure_1 rfl hl (by decide) rfl (fun ls hl => ?_)
  refine z_iconst cx dX0_closure_2 ?_
  refine lv_istore_n (lv' := [(3, .int (ii 0)), (2, .int (ii a1)), (0, .ref (B + a0)), (1, .int (ii a1))]) cx.1 cx.2.1 dX0_closure_3 rfl hl (by decide) rfl (fun ls hl => ?_)
  refine z_jn hf (fun j => ∀ (x24_2 : Int) (h : HF) (H : Heap) (locs : List Loc) (ls : Array Slot), rng x24_2 → Hp g B s h H locs → lv_has ls 4 [(2, .int (ii x24_2))] → j x24_2 h = some o → W p l e (rmn 4) s m args below meth c H locs 0 0 Q (F0 m 24 ls [])) ?_ (fun j24 hj24 hf => ?_)
  · intro x24_2 h H locs ls rx24_2 hp hl hf
    refine lv_iload_n cx.1 cx.2.1 dX0_closure_24 rfl (lv_at hl 0 rfl) ?_
    rw [hQ]; exact z_iret cx hp rx24_2 dX0_closure_25 hf
  exact wX0_closure_4 F cx a0 ra0 j24 hj24 F a1 0 h _ _ ls ra1 (by decide) hp (lv_sub hl [2, 1, 0] rfl) hf
theorem dX0_partCount_0 : decode cX0_partCount 0 = .ok (.iconst 0, 1) := by decide +kernel
theorem dX0_partCount_1 : decode cX0_partCount 1 = .ok (.istore_n 1, 1) := by decide +kernel
theorem dX0_partCount_2 : decode cX0_partCount 2 = .ok (.iconst 1, 1) := by decide +kernel
theorem dX0_partCount_3 : decode cX0_partCount 3 = .ok (.istore_n 2, 1) := by decide +kernel
theorem dX0_partCount_4 : decode cX0_partCount 4 = .ok (.iload_n 2, 1) := by decide +kernel
theorem dX0_partCount_5 : decode cX0_partCount 5 = .ok (.aload_n 0, 1) := by decide +kernel
theorem dX0_partCount_6 : decode cX0_partCount 6 = .ok (.invokevirtual 84, 3) := by decide +kernel
theorem dX0_partCount_9 : decode cX0_partCount 9 = .ok (.if_icmp .gt 21, 3) := by decide +kernel
theorem dX0_partCount_12 : decode cX0_partCount 12 = .ok (.aload_n 0, 1) := by decide +kernel
theorem dX0_partCount_13 : decode cX0_partCount 13 = .ok (.iload_n 2, 1) := by decide +kernel
theorem dX0_partCount_14 : decode cX0_partCount 14 = .ok (.invokevirtual 109, 3) := by decide +kernel
theorem dX0_partCount_17 : decode cX0_partCount 17 = .ok (.iload_n 2, 1) := by decide +kernel
theorem dX0_partCount_18 : decode cX0_partCount 18 = .ok (.if_icmp .ne 6, 3) := by decide +kernel
theorem dX0_partCount_21 : decode cX0_partCount 21 = .ok (.iinc 1 1, 3) := by decide +kernel
theorem dX0_partCount_24 : decode cX0_partCount 24 = .ok (.iinc 2 1, 3) := by decide +kernel
theorem dX0_partCount_27 : decode cX0_partCount 27 = .ok (.goto (-23), 3) := by decide +kernel
theorem dX0_partCount_30 : decode cX0_partCount 30 = .ok (.iload_n 1, 1) := by decide +kernel
theorem dX0_partCount_31 : decode cX0_partCount 31 = .ok (.ireturn, 1) := by decide +kernel
def LX0_partCount_4 (F : Nat) (u0 : Nat) (k30 : Int → HF → RO) : Nat → Int → Int → HF → RO
  | 0, _, _, _ => none
  | n + 1, v1, v2, h =>
    zbd (fX0_allBits F u0 h) fun r1 h =>
    if r1 < v2 then (
      k30 v1 h
    ) else (
      zbd (fX0_grown F u0 v2 h) fun r2 h =>
      zjn (fun (x24_1 : Int) (x24_2 : Int) (h : HF) => (
        zlet (wr (x24_2 + 1)) fun x3 =>
        LX0_partCount_4 F u0 k30 n x24_1 x3 h
      )) fun j24 =>
      if r2 = v2 then (
        zlet (wr (v1 + 1)) fun x4 =>
        j24 x4 v2 h
      ) else (
        j24 v1 v2 h
      )
    )
set_option maxHeartbeats 4000000 in
set_option maxRecDepth 100000 in
theorem wX0_partCount_4 {p : Program} {l : Launch} {e : Env} {s : State} {m : MethodId} {args : Array Value} {below : List Frame} {meth : Method} {c : Code} {Q : State → Prop} {g : zG} {B : Nat} {o : Int × HF} (F : Nat) (cx : Cx p s m args meth c cX0_partCount 3 RX0 (some .int) g B) (u0 : Nat) (ru0 : kt u0 = 3) (k30 : Int → HF → RO) (hk30 : ∀ (x1 : Int) (h : HF) (H : Heap) (locs : List Loc) (ls : Array Slot), rng x1 → Hp g B s h H locs → lv_has ls 3 [(1, .int (ii x1))] → k30 x1 h = some o → W p l e (rmn 4) s m args below meth c H locs 0 0 Q (F0 m 30 ls [])) : ∀ (n : Nat) (v1 : Int) (v2 : Int) (h : HF) (H : Heap) (locs : List Loc) (ls : Array Slot), rng v1 → rng v2 → Hp g B s h H locs → lv_has ls 3 [(0, .ref (B + u0)), (1, .int (ii v1)), (2, .int (ii v2))] → LX0_partCount_4 F u0 k30 n v1 v2 h = some o → W p l e (rmn 4) s m args below meth c H locs 0 0 Q (F0 m 4 ls []) := by
  intro n
  induction n with
  | zero =>
    intro v1 v2 h H locs ls rv1 rv2 hp hl hf
    cases hf
  | succ n ih =>
    intro v1 v2 h H locs ls rv1 rv2 hp hl hf
    rw [LX0_partCount_4] at hf
    refine lv_iload_n cx.1 cx.2.1 dX0_partCount_4 rfl (lv_at hl 2 rfl) ?_
    refine lv_aload_n cx.1 cx.2.1 dX0_partCount_5 rfl (lv_at hl 0 rfl) ?_
    refine z_ci cx hp (fun o' hx => zrunV (n := 4) (As := []) (rest := [.int (ii v2)]) cx hp (mX0_allBits F l g B h u0 ru0 o' hx) 0 ru0 (by decide) rfl vw_X0_allBits ml_X0_84 (by decide) rfl hl.1 rfl (Nat.le_of_ble_eq_true rfl) dX0_partCount_6) hf (fun r1 h H locs rr1 hp hf => ?_)
    refine z_icmp_gt cx rv2 rr1 (tgt := 30) dX0_partCount_9 (by decide) hf (fun _ hf => ?_) (fun _ hf => ?_)
    · exact hk30 v1 h _ _ ls rv1 hp (lv_sub hl [1] rfl) hf
    · refine lv_aload_n cx.1 cx.2.1 dX0_partCount_12 rfl (lv_at hl 0 rfl) ?_
      refine lv_iload_n cx.1 cx.2.1 dX0_partCount_13 rfl (lv_at hl 2 rfl) ?_
      refine z_ci cx hp (fun o' hx => zrunV (n := 4) (As := [.int (ii v2)]) (rest := []) cx hp (mX0_grown F l g B h u0 v2 ru0 rv2 o' hx) 0 ru0 (by decide) rfl vw_X0_grown ml_X0_109 (by decide) rfl hl.1 rfl (Nat.le_of_ble_eq_true rfl) dX0_partCount_14) hf (fun r2 h H locs rr2 hp hf => ?_)
      refine lv_iload_n cx.1 cx.2.1 dX0_partCount_17 rfl (lv_at hl 2 rfl) ?_
      refine z_jn hf (fun j => ∀ (x24_1 : Int) (x24_2 : Int) (h : HF) (H : Heap) (locs : List Loc) (ls : Array Slot), rng x24_1 → rng x24_2 → Hp g B s h H locs → lv_has ls 3 [(0, .ref (B + u0)), (1, .int (ii x24_1)), (2, .int (ii x24_2))] → j x24_1 x24_2 h = some o → W p l e (rmn 4) s m args below meth c H locs 0 0 Q (F0 m 24 ls [])) ?_ (fun j24 hj24 hf => ?_)
      · intro x24_1 x24_2 h H locs ls rx24_1 rx24_2 hp hl hf
        refine z_iinc cx (fun x3 => [(2, .int (ii x3)), (0, .ref (B + u0)), (1, .int (ii x24_1))]) dX0_partCount_24 hl (k := 2) rfl (by decide) (fun _ => rfl) hf (fun x3 rx3 hf ls hl => ?_)
        refine lv_goto (tgt := 4) cx.1 cx.2.1 dX0_partCount_27 (by decide) ?_
        exact ih x24_1 x3 h _ _ ls rx24_1 rx3 hp (lv_sub hl [1, 2, 0] rfl) hf
      refine z_icmp_ne cx rr2 rv2 (tgt := 24) dX0_partCount_18 (by decide) hf (fun _ hf => ?_) (fun _ hf => ?_)
      · refine z_iinc cx (fun x4 => [(1, .int (ii x4)), (0, .ref (B + u0)), (2, .int (ii v2))]) dX0_partCount_21 hl (k := 1) rfl (by decide) (fun _ => rfl) hf (fun x4 rx4 hf ls hl => ?_)
        exact hj24 x4 v2 h _ _ ls rx4 rv2 hp (lv_sub hl [1, 0, 2] rfl) hf
      · exact hj24 v1 v2 h _ _ ls rv1 rv2 hp (lv_sub hl [0, 1, 2] rfl) hf
def fX0_partCount (F : Nat) (a0 : Nat) (h : HF) : RO :=
  zjn (fun (x30_1 : Int) (h : HF) => (
    some (x30_1, h)
  )) fun j30 =>
  LX0_partCount_4 F a0 j30 F 0 1 h
set_option maxHeartbeats 4000000 in
set_option maxRecDepth 100000 in
theorem mX0_partCount (F : Nat) (l : Launch) (g : zG) (B : Nat) (h : HF) (a0 : Nat) (ra0 : kt a0 = 3) : CTi l g B yX0_partCount cX0_partCount 3 (some .int) 4 [.ref (B + a0)] h (fX0_partCount F a0 h) := by
  refine z_enterI (by decide) rfl (Nat.le_of_ble_eq_true rfl) ?_
  intro p e s m args below meth c ls o Q cx hp hl hf hQ
  have hl : lv_has ls 3 [(0, .ref (B + a0))] := hl
  unfold fX0_partCount at hf
  refine z_iconst cx dX0_partCount_0 ?_
  refine lv_istore_n (lv' := [(1, .int (ii 0)), (0, .ref (B + a0))]) cx.1 cx.2.1 dX0_partCount_1 rfl hl (by decide) rfl (fun ls hl => ?_)
  refine z_iconst cx dX0_partCount_2 ?_
  refine lv_istore_n (lv' := [(2, .int (ii 1)), (1, .int (ii 0)), (0, .ref (B + a0))]) cx.1 cx.2.1 dX0_partCount_3 rfl hl (by decide) rfl (fun ls hl => ?_)
  refine z_jn hf (fun j => ∀ (x30_1 : Int) (h : HF) (H : Heap) (locs : List Loc) (ls : Array Slot), rng x30_1 → Hp g B s h H locs → lv_has ls 3 [(1, .int (ii x30_1))] → j x30_1 h = some o → W p l e (rmn 4) s m args below meth c H locs 0 0 Q (F0 m 30 ls [])) ?_ (fun j30 hj30 hf => ?_)
  · intro x30_1 h H locs ls rx30_1 hp hl hf
    refine lv_iload_n cx.1 cx.2.1 dX0_partCount_30 rfl (lv_at hl 0 rfl) ?_
    rw [hQ]; exact z_iret cx hp rx30_1 dX0_partCount_31 hf
  exact wX0_partCount_4 F cx a0 ra0 j30 hj30 F 0 1 h _ _ ls (by decide) (by decide) hp (lv_sub hl [2, 1, 0] rfl) hf
theorem dX0_partBits_0 : decode cX0_partBits 0 = .ok (.iconst 0, 1) := by decide +kernel
theorem dX0_partBits_1 : decode cX0_partBits 1 = .ok (.istore_n 2, 1) := by decide +kernel
theorem dX0_partBits_2 : decode cX0_partBits 2 = .ok (.iconst 1, 1) := by decide +kernel
theorem dX0_partBits_3 : decode cX0_partBits 3 = .ok (.istore_n 3, 1) := by decide +kernel
theorem dX0_partBits_4 : decode cX0_partBits 4 = .ok (.iload_n 3, 1) := by decide +kernel
theorem dX0_partBits_5 : decode cX0_partBits 5 = .ok (.aload_n 0, 1) := by decide +kernel
theorem dX0_partBits_6 : decode cX0_partBits 6 = .ok (.invokevirtual 84, 3) := by decide +kernel
theorem dX0_partBits_9 : decode cX0_partBits 9 = .ok (.if_icmp .gt 33, 3) := by decide +kernel
theorem dX0_partBits_12 : decode cX0_partBits 12 = .ok (.iload_n 2, 1) := by decide +kernel
theorem dX0_partBits_13 : decode cX0_partBits 13 = .ok (.iload_n 1, 1) := by decide +kernel
theorem dX0_partBits_14 : decode cX0_partBits 14 = .ok (.if_icmp .gt 28, 3) := by decide +kernel
theorem dX0_partBits_17 : decode cX0_partBits 17 = .ok (.aload_n 0, 1) := by decide +kernel
theorem dX0_partBits_18 : decode cX0_partBits 18 = .ok (.iload_n 3, 1) := by decide +kernel
theorem dX0_partBits_19 : decode cX0_partBits 19 = .ok (.invokevirtual 109, 3) := by decide +kernel
theorem dX0_partBits_22 : decode cX0_partBits 22 = .ok (.iload_n 3, 1) := by decide +kernel
theorem dX0_partBits_23 : decode cX0_partBits 23 = .ok (.if_icmp .ne 13, 3) := by decide +kernel
theorem dX0_partBits_26 : decode cX0_partBits 26 = .ok (.iload_n 2, 1) := by decide +kernel
theorem dX0_partBits_27 : decode cX0_partBits 27 = .ok (.iload_n 1, 1) := by decide +kernel
theorem dX0_partBits_28 : decode cX0_partBits 28 = .ok (.if_icmp .ne 5, 3) := by decide +kernel
theorem dX0_partBits_31 : decode cX0_partBits 31 = .ok (.iload_n 3, 1) := by decide +kernel
theorem dX0_partBits_32 : decode cX0_partBits 32 = .ok (.ireturn, 1) := by decide +kernel
theorem dX0_partBits_33 : decode cX0_partBits 33 = .ok (.iinc 2 1, 3) := by decide +kernel
theorem dX0_partBits_36 : decode cX0_partBits 36 = .ok (.iinc 3 1, 3) := by decide +kernel
theorem dX0_partBits_39 : decode cX0_partBits 39 = .ok (.goto (-35), 3) := by decide +kernel
theorem dX0_partBits_42 : decode cX0_partBits 42 = .ok (.iconst (-1), 1) := by decide +kernel
theorem dX0_partBits_43 : decode cX0_partBits 43 = .ok (.ireturn, 1) := by decide +kernel
def LX0_partBits_4 (F : Nat) (u0 : Nat) (u1 : Int) (k42 : HF → RO) (k31 : Int → HF → RO) : Nat → Int → Int → HF → RO
  | 0, _, _, _ => none
  | n + 1, v2, v3, h =>
    zbd (fX0_allBits F u0 h) fun r1 h =>
    if r1 < v3 then (
      k42  h
    ) else (
      if u1 < v2 then (
        k42  h
      ) else (
        zbd (fX0_grown F u0 v3 h) fun r2 h =>
        zjn (fun (x36_2 : Int) (x36_3 : Int) (h : HF) => (
          zlet (wr (x36_3 + 1)) fun x3 =>
          LX0_partBits_4 F u0 u1 k42 k31 n x36_2 x3 h
        )) fun j36 =>
        if r2 = v3 then (
          if v2 = u1 then (
            k31 v3 h
          ) else (
            zlet (wr (v2 + 1)) fun x4 =>
            j36 x4 v3 h
          )
        ) else (
          j36 v2 v3 h
        )
      )
    )
set_option maxHeartbeats 4000000 in
set_option maxRecDepth 100000 in
theorem wX0_partBits_4 {p : Program} {l : Launch} {e : Env} {s : State} {m : MethodId} {args : Array Value} {below : List Frame} {meth : Method} {c : Code} {Q : State → Prop} {g : zG} {B : Nat} {o : Int × HF} (F : Nat) (cx : Cx p s m args meth c cX0_partBits 4 RX0 (some .int) g B) (u0 : Nat) (ru0 : kt u0 = 3) (u1 : Int) (ru1 : rng u1) (k42 : HF → RO) (hk42 : ∀  (h : HF) (H : Heap) (locs : List Loc) (ls : Array Slot), Hp g B s h H locs → lv_has ls 4 [] → k42  h = some o → W p l e (rmn 4) s m args below meth c H locs 0 0 Q (F0 m 42 ls [])) (k31 : Int → HF → RO) (hk31 : ∀ (x3 : Int) (h : HF) (H : Heap) (locs : List Loc) (ls : Array Slot), rng x3 → Hp g B s h H locs → lv_has ls 4 [(3, .int (ii x3))] → k31 x3 h = some o → W p l e (rmn 4) s m args below meth c H locs 0 0 Q (F0 m 31 ls [])) : ∀ (n : Nat) (v2 : Int) (v3 : Int) (h : HF) (H : Heap) (locs : List Loc) (ls : Array Slot), rng v2 → rng v3 → Hp g B s h H locs → lv_has ls 4 [(0, .ref (B + u0)), (1, .int (ii u1)), (2, .int (ii v2)), (3, .int (ii v3))] → LX0_partBits_4 F u0 u1 k42 k31 n v2 v3 h = some o → W p l e (rmn 4) s m args below meth c H locs 0 0 Q (F0 m 4 ls []) := by
  intro n
  induction n with
  | zero =>
    intro v2 v3 h H locs ls rv2 rv3 hp hl hf
    cases hf
  | succ n ih =>
    intro v2 v3 h H locs ls rv2 rv3 hp hl hf
    rw [LX0_partBits_4] at hf
    refine lv_iload_n cx.1 cx.2.1 dX0_partBits_4 rfl (lv_at hl 3 rfl) ?_
    refine lv_aload_n cx.1 cx.2.1 dX0_partBits_5 rfl (lv_at hl 0 rfl) ?_
    refine z_ci cx hp (fun o' hx => zrunV (n := 4) (As := []) (rest := [.int (ii v3)]) cx hp (mX0_allBits F l g B h u0 ru0 o' hx) 0 ru0 (by decide) rfl vw_X0_allBits ml_X0_84 (by decide) rfl hl.1 rfl (Nat.le_of_ble_eq_true rfl) dX0_partBits_6) hf (fun r1 h H locs rr1 hp hf => ?_)
    refine z_icmp_gt cx rv3 rr1 (tgt := 42) dX0_partBits_9 (by decide) hf (fun _ hf => ?_) (fun _ hf => ?_)
    · exact hk42  h _ _ ls  hp (lv_sub hl [] rfl) hf
    · refine lv_iload_n cx.1 cx.2.1 dX0_partBits_12 rfl (lv_at hl 2 rfl) ?_
      refine lv_iload_n cx.1 cx.2.1 dX0_partBits_13 rfl (lv_at hl 1 rfl) ?_
      refine z_icmp_gt cx rv2 ru1 (tgt := 42) dX0_partBits_14 (by decide) hf (fun _ hf => ?_) (fun _ hf => ?_)
      · exact hk42  h _ _ ls  hp (lv_sub hl [] rfl) hf
      · refine lv_aload_n cx.1 cx.2.1 dX0_partBits_17 rfl (lv_at hl 0 rfl) ?_
        refine lv_iload_n cx.1 cx.2.1 dX0_partBits_18 rfl (lv_at hl 3 rfl) ?_
        refine z_ci cx hp (fun o' hx => zrunV (n := 4) (As := [.int (ii v3)]) (rest := []) cx hp (mX0_grown F l g B h u0 v3 ru0 rv3 o' hx) 0 ru0 (by decide) rfl vw_X0_grown ml_X0_109 (by decide) rfl hl.1 rfl (Nat.le_of_ble_eq_true rfl) dX0_partBits_19) hf (fun r2 h H locs rr2 hp hf => ?_)
        refine lv_iload_n cx.1 cx.2.1 dX0_partBits_22 rfl (lv_at hl 3 rfl) ?_
        refine z_jn hf (fun j => ∀ (x36_2 : Int) (x36_3 : Int) (h : HF) (H : Heap) (locs : List Loc) (ls : Array Slot), rng x36_2 → rng x36_3 → Hp g B s h H locs → lv_has ls 4 [(0, .ref (B + u0)), (1, .int (ii u1)), (2, .int (ii x36_2)), (3, .int (ii x36_3))] → j x36_2 x36_3 h = some o → W p l e (rmn 4) s m args below meth c H locs 0 0 Q (F0 m 36 ls [])) ?_ (fun j36 hj36 hf => ?_)
        · intro x36_2 x36_3 h H locs ls rx36_2 rx36_3 hp hl hf
          refine z_iinc cx (fun x3 => [(3, .int (ii x3)), (0, .ref (B + u0)), (1, .int (ii u1)), (2, .int (ii x36_2))]) dX0_partBits_36 hl (k := 3) rfl (by decide) (fun _ => rfl) hf (fun x3 rx3 hf ls hl => ?_)
          refine lv_goto (tgt := 4) cx.1 cx.2.1 dX0_partBits_39 (by decide) ?_
          exact ih x36_2 x3 h _ _ ls rx36_2 rx3 hp (lv_sub hl [1, 2, 3, 0] rfl) hf
        refine z_icmp_ne cx rr2 rv3 (tgt := 36) dX0_partBits_23 (by decide) hf (fun _ hf => ?_) (fun _ hf => ?_)
        · refine lv_iload_n cx.1 cx.2.1 dX0_partBits_26 rfl (lv_at hl 2 rfl) ?_
          refine lv_iload_n cx.1 cx.2.1 dX0_partBits_27 rfl (lv_at hl 1 rfl) ?_
          refine z_icmp_ne cx rv2 ru1 (tgt := 33) dX0_partBits_28 (by decide) hf (fun _ hf => ?_) (fun _ hf => ?_)
          · exact hk31 v3 h _ _ ls rv3 hp (lv_sub hl [3] rfl) hf
          · refine z_iinc cx (fun x4 => [(2, .int (ii x4)), (0, .ref (B + u0)), (1, .int (ii u1)), (3, .int (ii v3))]) dX0_partBits_33 hl (k := 2) rfl (by decide) (fun _ => rfl) hf (fun x4 rx4 hf ls hl => ?_)
            exact hj36 x4 v3 h _ _ ls rx4 rv3 hp (lv_sub hl [1, 2, 0, 3] rfl) hf
        · exact hj36 v2 v3 h _ _ ls rv2 rv3 hp (lv_sub hl [0, 1, 2, 3] rfl) hf
def fX0_partBits (F : Nat) (a0 : Nat) (a1 : Int) (h : HF) : RO :=
  zjn (fun  (h : HF) => (
    some ((-1), h)
  )) fun j42 =>
  zjn (fun (x31_3 : Int) (h : HF) => (
    some (x31_3, h)
  )) fun j31 =>
  LX0_partBits_4 F a0 a1 j42 j31 F 0 1 h
set_option maxHeartbeats 4000000 in
set_option maxRecDepth 100000 in
theorem mX0_partBits (F : Nat) (l : Launch) (g : zG) (B : Nat) (h : HF) (a0 : Nat) (a1 : Int) (ra0 : kt a0 = 3) (ra1 : rng a1) : CTi l g B yX0_partBits cX0_partBits 4 (some .int) 4 [.ref (B + a0), .int (ii a1)] h (fX0_partBits F a0 a1 h) := by
  refine z_enterI (by decide) rfl (Nat.le_of_ble_eq_true rfl) ?_
  intro p e s m args below meth c ls o Q cx hp hl hf hQ
  have hl : lv_has ls 4 [(0, .ref (B + a0)), (1, .int (ii a1))] := hl
  unfold fX0_partBits at hf
  refine z_iconst cx dX0_partBits_0 ?_
  refine lv_istore_n (lv' := [(2, .int (ii 0)), (0, .ref (B + a0)), (1, .int (ii a1))]) cx.1 cx.2.1 dX0_partBits_1 rfl hl (by decide) rfl (fun ls hl => ?_)
  refine z_iconst cx dX0_partBits_2 ?_
  refine lv_istore_n (lv' := [(3, .int (ii 1)), (2, .int (ii 0)), (0, .ref (B + a0)), (1, .int (ii a1))]) cx.1 cx.2.1 dX0_partBits_3 rfl hl (by decide) rfl (fun ls hl => ?_)
  refine z_jn hf (fun j => ∀  (h : HF) (H : Heap) (locs : List Loc) (ls : Array Slot), Hp g B s h H locs → lv_has ls 4 [] → j  h = some o → W p l e (rmn 4) s m args below meth c H locs 0 0 Q (F0 m 42 ls [])) ?_ (fun j42 hj42 hf => ?_)
  · intro  h H locs ls  hp hl hf
    refine z_iconst cx dX0_partBits_42 ?_
    rw [hQ]; exact z_iret cx hp (by decide) dX0_partBits_43 hf
  refine z_jn hf (fun j => ∀ (x31_3 : Int) (h : HF) (H : Heap) (locs : List Loc) (ls : Array Slot), rng x31_3 → Hp g B s h H locs → lv_has ls 4 [(3, .int (ii x31_3))] → j x31_3 h = some o → W p l e (rmn 4) s m args below meth c H locs 0 0 Q (F0 m 31 ls [])) ?_ (fun j31 hj31 hf => ?_)
  · intro x31_3 h H locs ls rx31_3 hp hl hf
    refine lv_iload_n cx.1 cx.2.1 dX0_partBits_31 rfl (lv_at hl 0 rfl) ?_
    rw [hQ]; exact z_iret cx hp rx31_3 dX0_partBits_32 hf
  exact wX0_partBits_4 F cx a0 ra0 a1 ra1 j42 hj42 j31 hj31 F 0 1 h _ _ ls (by decide) (by decide) hp (lv_sub hl [2, 3, 1, 0] rfl) hf
theorem dX2_gather_0 : decode cX2_gather 0 = .ok (.aload_n 0, 1) := by decide +kernel
theorem dX2_gather_1 : decode cX2_gather 1 = .ok (.aload_n 1, 1) := by decide +kernel
theorem dX2_gather_2 : decode cX2_gather 2 = .ok (.putfield 21, 3) := by decide +kernel
theorem dX2_gather_5 : decode cX2_gather 5 = .ok (.aload_n 0, 1) := by decide +kernel
theorem dX2_gather_6 : decode cX2_gather 6 = .ok (.iconst 0, 1) := by decide +kernel
theorem dX2_gather_7 : decode cX2_gather 7 = .ok (.putfield 25, 3) := by decide +kernel
theorem dX2_gather_10 : decode cX2_gather 10 = .ok (.aload_n 0, 1) := by decide +kernel
theorem dX2_gather_11 : decode cX2_gather 11 = .ok (.getfield 15, 3) := by decide +kernel
theorem dX2_gather_14 : decode cX2_gather 14 = .ok (.iconst 0, 1) := by decide +kernel
theorem dX2_gather_15 : decode cX2_gather 15 = .ok (.invokestatic 29, 3) := by decide +kernel
theorem dX2_gather_18 : decode cX2_gather 18 = .ok (.iconst 1, 1) := by decide +kernel
theorem dX2_gather_19 : decode cX2_gather 19 = .ok (.istore_n 2, 1) := by decide +kernel
theorem dX2_gather_20 : decode cX2_gather 20 = .ok (.iconst 0, 1) := by decide +kernel
theorem dX2_gather_21 : decode cX2_gather 21 = .ok (.istore_n 3, 1) := by decide +kernel
theorem dX2_gather_22 : decode cX2_gather 22 = .ok (.iload_n 3, 1) := by decide +kernel
theorem dX2_gather_23 : decode cX2_gather 23 = .ok (.sipush 877, 3) := by decide +kernel
theorem dX2_gather_26 : decode cX2_gather 26 = .ok (.if_icmp .ge 59, 3) := by decide +kernel
theorem dX2_gather_29 : decode cX2_gather 29 = .ok (.iload_n 2, 1) := by decide +kernel
theorem dX2_gather_30 : decode cX2_gather 30 = .ok (.ifCond .eq 55, 3) := by decide +kernel
theorem dX2_gather_33 : decode cX2_gather 33 = .ok (.aload_n 0, 1) := by decide +kernel
theorem dX2_gather_34 : decode cX2_gather 34 = .ok (.invokevirtual 35, 3) := by decide +kernel
theorem dX2_gather_37 : decode cX2_gather 37 = .ok (.iconst (-1), 1) := by decide +kernel
theorem dX2_gather_38 : decode cX2_gather 38 = .ok (.if_icmp .ne 36, 3) := by decide +kernel
theorem dX2_gather_41 : decode cX2_gather 41 = .ok (.aload_n 0, 1) := by decide +kernel
theorem dX2_gather_42 : decode cX2_gather 42 = .ok (.getfield 9, 3) := by decide +kernel
theorem dX2_gather_45 : decode cX2_gather 45 = .ok (.aload_n 0, 1) := by decide +kernel
theorem dX2_gather_46 : decode cX2_gather 46 = .ok (.getfield 25, 3) := by decide +kernel
theorem dX2_gather_49 : decode cX2_gather 49 = .ok (.aload_n 0, 1) := by decide +kernel
theorem dX2_gather_50 : decode cX2_gather 50 = .ok (.getfield 15, 3) := by decide +kernel
theorem dX2_gather_53 : decode cX2_gather 53 = .ok (.aload_n 0, 1) := by decide +kernel
theorem dX2_gather_54 : decode cX2_gather 54 = .ok (.getfield 21, 3) := by decide +kernel
theorem dX2_gather_57 : decode cX2_gather 57 = .ok (.getfield 39, 3) := by decide +kernel
theorem dX2_gather_60 : decode cX2_gather 60 = .ok (.invokestatic 44, 3) := by decide +kernel
theorem dX2_gather_63 : decode cX2_gather 63 = .ok (.iastore, 1) := by decide +kernel
theorem dX2_gather_64 : decode cX2_gather 64 = .ok (.aload_n 0, 1) := by decide +kernel
theorem dX2_gather_65 : decode cX2_gather 65 = .ok (.dup, 1) := by decide +kernel
theorem dX2_gather_66 : decode cX2_gather 66 = .ok (.getfield 25, 3) := by decide +kernel
theorem dX2_gather_69 : decode cX2_gather 69 = .ok (.iconst 1, 1) := by decide +kernel
theorem dX2_gather_70 : decode cX2_gather 70 = .ok (.iadd, 1) := by decide +kernel
theorem dX2_gather_71 : decode cX2_gather 71 = .ok (.putfield 25, 3) := by decide +kernel
theorem dX2_gather_74 : decode cX2_gather 74 = .ok (.aload_n 0, 1) := by decide +kernel
theorem dX2_gather_75 : decode cX2_gather 75 = .ok (.invokevirtual 48, 3) := by decide +kernel
theorem dX2_gather_78 : decode cX2_gather 78 = .ok (.istore_n 2, 1) := by decide +kernel
theorem dX2_gather_79 : decode cX2_gather 79 = .ok (.iinc 3 1, 3) := by decide +kernel
theorem dX2_gather_82 : decode cX2_gather 82 = .ok (.goto (-60), 3) := by decide +kernel
theorem dX2_gather_85 : decode cX2_gather 85 = .ok (.return_, 1) := by decide +kernel
def LX2_gather_22 (F : Nat) (u0 : Nat) (k85 : HF → RO) : Nat → Int → Int → HF → RO
  | 0, _, _, _ => none
  | n + 1, v2, v3, h =>
    if v3 < 877 then (
      if v2 = 0 then (
        k85  h
      ) else (
        zbd (fX2_clash F u0 h) fun r2 h =>
        zjn (fun (x74_3 : Int) (h : HF) => (
          zbd (fX2_nextPartition F u0 h) fun r3 h =>
          zlet (wr (x74_3 + 1)) fun x4 =>
          LX2_gather_22 F u0 k85 n r3 x4 h
        )) fun j74 =>
        if r2 = (-1) then (
          zgf h u0 1 fun x5 =>
          zgd h u0 4 fun x6 =>
          zgf h x6 0 fun x7 =>
          zbd (fX11_encode F (u0 + 2) x7 h) fun r8 h =>
          zwr h (u0 + 1) x5 r8 fun h =>
          zgf h u0 1 fun x9 =>
          zpf h u0 1 (wr (x9 + 1)) fun h =>
          j74 v3 h
        ) else (
          j74 v3 h
        )
      )
    ) else (
      k85  h
    )
set_option maxHeartbeats 4000000 in
set_option maxRecDepth 100000 in
theorem wX2_gather_22 {p : Program} {l : Launch} {e : Env} {s : State} {m : MethodId} {args : Array Value} {below : List Frame} {meth : Method} {c : Code} {Q : State → Prop} {g : zG} {B : Nat} {o : Int × HF} (F : Nat) (cx : Cx p s m args meth c cX2_gather 4 RX2 none g B) (u0 : Nat) (ru0 : kt u0 = 5) (k85 : HF → RO) (hk85 : ∀  (h : HF) (H : Heap) (locs : List Loc) (ls : Array Slot), Hp g B s h H locs → lv_has ls 4 [] → k85  h = some o → W p l e (rmn 4) s m args below meth c H locs 0 0 Q (F0 m 85 ls [])) : ∀ (n : Nat) (v2 : Int) (v3 : Int) (h : HF) (H : Heap) (locs : List Loc) (ls : Array Slot), rng v2 → rng v3 → Hp g B s h H locs → lv_has ls 4 [(0, .ref (B + u0)), (2, .int (ii v2)), (3, .int (ii v3))] → LX2_gather_22 F u0 k85 n v2 v3 h = some o → W p l e (rmn 4) s m args below meth c H locs 0 0 Q (F0 m 22 ls []) := by
  intro n
  induction n with
  | zero =>
    intro v2 v3 h H locs ls rv2 rv3 hp hl hf
    cases hf
  | succ n ih =>
    intro v2 v3 h H locs ls rv2 rv3 hp hl hf
    rw [LX2_gather_22] at hf
    refine lv_iload_n cx.1 cx.2.1 dX2_gather_22 rfl (lv_at hl 2 rfl) ?_
    refine z_sipush cx (by decide) dX2_gather_23 ?_
    refine z_icmp_ge cx rv3 (by decide) (tgt := 85) dX2_gather_26 (by decide) hf (fun _ hf => ?_) (fun _ hf => ?_)
    · refine lv_iload_n cx.1 cx.2.1 dX2_gather_29 rfl (lv_at hl 1 rfl) ?_
      refine z_if_eq cx rv2 (tgt := 85) dX2_gather_30 (by decide) hf (fun _ hf => ?_) (fun _ hf => ?_)
      · exact hk85  h _ _ ls  hp (lv_sub hl [] rfl) hf
      · refine lv_aload_n cx.1 cx.2.1 dX2_gather_33 rfl (lv_at hl 0 rfl) ?_
        refine z_ci cx hp (fun o' hx => zrunV (n := 4) (As := []) (rest := []) cx hp (mX2_clash F l g B h u0 ru0 o' hx) 2 ru0 (by decide) rfl vw_X2_clash ml_X2_35 (by decide) rfl hl.1 rfl (Nat.le_of_ble_eq_true rfl) dX2_gather_34) hf (fun r2 h H locs rr2 hp hf => ?_)
        refine z_iconst cx dX2_gather_37 ?_
        refine z_jn hf (fun j => ∀ (x74_3 : Int) (h : HF) (H : Heap) (locs : List Loc) (ls : Array Slot), rng x74_3 → Hp g B s h H locs → lv_has ls 4 [(0, .ref (B + u0)), (3, .int (ii x74_3))] → j x74_3 h = some o → W p l e (rmn 4) s m args below meth c H locs 0 0 Q (F0 m 74 ls [])) ?_ (fun j74 hj74 hf => ?_)
        · intro x74_3 h H locs ls rx74_3 hp hl hf
          refine lv_aload_n cx.1 cx.2.1 dX2_gather_74 rfl (lv_at hl 0 rfl) ?_
          refine z_ci cx hp (fun o' hx => zrunV (n := 4) (As := []) (rest := []) cx hp (mX2_nextPartition F l g B h u0 ru0 o' hx) 2 ru0 (by decide) rfl vw_X2_nextPartition ml_X2_48 (by decide) rfl hl.1 rfl (Nat.le_of_ble_eq_true rfl) dX2_gather_75) hf (fun r3 h H locs rr3 hp hf => ?_)
          refine lv_istore_n (lv' := [(2, .int (ii r3)), (0, .ref (B + u0)), (3, .int (ii x74_3))]) cx.1 cx.2.1 dX2_gather_78 rfl hl (by decide) rfl (fun ls hl => ?_)
          refine z_iinc cx (fun x4 => [(3, .int (ii x4)), (2, .int (ii r3)), (0, .ref (B + u0))]) dX2_gather_79 hl (k := 2) rfl (by decide) (fun _ => rfl) hf (fun x4 rx4 hf ls hl => ?_)
          refine lv_goto (tgt := 22) cx.1 cx.2.1 dX2_gather_82 (by decide) ?_
          exact ih r3 x4 h _ _ ls rr3 rx4 hp (lv_sub hl [2, 1, 0] rfl) hf
        refine z_icmp_ne cx rr2 (by decide) (tgt := 74) dX2_gather_38 (by decide) hf (fun _ hf => ?_) (fun _ hf => ?_)
        · refine lv_aload_n cx.1 cx.2.1 dX2_gather_41 rfl (lv_at hl 0 rfl) ?_
          refine z_gets cx hp (T := TX2) 2 0 (u0 + 1) rfl zin_2 (by decide) (by decide) ru0 rfl fl_X2_9 dX2_gather_42 ?_
          refine lv_aload_n cx.1 cx.2.1 dX2_gather_45 rfl (lv_at hl 0 rfl) ?_
          refine z_geti cx hp (T := TX2) 2 1 rfl zin_2 (by decide) (by decide) ru0 rfl fl_X2_25 dX2_gather_46 hf (fun x5 rx5 hf => ?_)
          refine lv_aload_n cx.1 cx.2.1 dX2_gather_49 rfl (lv_at hl 0 rfl) ?_
          refine z_gets cx hp (T := TX2) 2 2 (u0 + 2) rfl zin_2 (by decide) (by decide) ru0 rfl fl_X2_15 dX2_gather_50 ?_
          refine lv_aload_n cx.1 cx.2.1 dX2_gather_53 rfl (lv_at hl 0 rfl) ?_
          refine z_getd cx hp (T := TX2) 2 4 3 rfl zin_2 (by decide) (by decide) ru0 rfl fl_X2_21 dX2_gather_54 hf (fun x6 rx6 hf => ?_)
          refine z_geti cx hp (T := TX0) 0 0 rfl zin_0 (by decide) (by decide) rx6 rfl fl_X2_39 dX2_gather_57 hf (fun x7 rx7 hf => ?_)
          refine z_ci cx hp (fun o' hx => zrunSN (n := 4) (As := [.ref (B + (u0 + 2)), .int (ii x7)]) (rest := [.int (ii x5), .ref (B + (u0 + 1))]) cx hp (mX11_encode F l g B h (u0 + 2) x7 (zs_2_2 u0 (kt_lt ru0 (by decide)) ru0) rx7 o' hx) sw_X11_encode mn_X2_44 (by decide) rfl hl.1 rfl (Nat.le_of_ble_eq_true rfl) dX2_gather_60) hf (fun r8 h H locs rr8 hp hf => ?_)
          refine z_iast cx hp (zs_2_0 u0 (kt_lt ru0 (by decide)) ru0) rx5 rr8 dX2_gather_63 hf (fun h H locs hp hf => ?_)
          refine lv_aload_n cx.1 cx.2.1 dX2_gather_64 rfl (lv_at hl 0 rfl) ?_
          refine lv_dup cx.1 cx.2.1 dX2_gather_65 rfl ?_
          refine z_geti cx hp (T := TX2) 2 1 rfl zin_2 (by decide) (by decide) ru0 rfl fl_X2_25 dX2_gather_66 hf (fun x9 rx9 hf => ?_)
          refine z_iconst cx dX2_gather_69 ?_
          refine z_iadd cx dX2_gather_70 ?_
          refine z_puti cx hp (T := TX2) tyX2 tyX2_ok nmX2 2 1 (rng_wr _) rfl zin_2 (by decide) (by decide) ru0 rfl rfl rfl fl_X2_25 dX2_gather_71 hf (fun h H locs hp hf => ?_)
          exact hj74 v3 h _ _ ls rv3 hp (lv_sub hl [0, 2] rfl) hf
        · exact hj74 v3 h _ _ ls rv3 hp (lv_sub hl [0, 2] rfl) hf
    · exact hk85  h _ _ ls  hp (lv_sub hl [] rfl) hf
def fX2_gather (F : Nat) (a0 : Nat) (a1 : Nat) (h : HF) : RO :=
  zpf h a0 4 ((a1 : Nat) : Int) fun h =>
  zpf h a0 1 0 fun h =>
  zbd (fJ7_fill_53178 F (a0 + 2) 0 h) fun _ h =>
  zjn (fun  (h : HF) => (
    some (0, h)
  )) fun j85 =>
  LX2_gather_22 F a0 j85 F 1 0 h
set_option maxHeartbeats 4000000 in
set_option maxRecDepth 100000 in
theorem mX2_gather (F : Nat) (l : Launch) (g : zG) (B : Nat) (h : HF) (a0 : Nat) (a1 : Nat) (ra0 : kt a0 = 5) (ra1 : kt a1 = 3) : CTv l g B yX2_gather cX2_gather 4 4 [.ref (B + a0), .ref (B + a1)] h (fX2_gather F a0 a1 h) := by
  refine z_enterV (by decide) rfl (Nat.le_of_ble_eq_true rfl) ?_
  intro p e s m args below meth c ls o Q cx hp hl hf hQ
  have hl : lv_has ls 4 [(0, .ref (B + a0)), (1, .ref (B + a1))] := hl
  unfold fX2_gather at hf
  refine lv_aload_n cx.1 cx.2.1 dX2_gather_0 rfl (lv_at hl 0 rfl) ?_
  refine lv_aload_n cx.1 cx.2.1 dX2_gather_1 rfl (lv_at hl 1 rfl) ?_
  refine z_putd cx hp (T := TX2) tyX2 tyX2_ok nmX2 2 4 3 ra1 rfl zin_2 (by decide) (by decide) ra0 rfl rfl ⟨_, rfl⟩ fl_X2_21 dX2_gather_2 hf (fun h H locs hp hf => ?_)
  refine lv_aload_n cx.1 cx.2.1 dX2_gather_5 rfl (lv_at hl 0 rfl) ?_
  refine z_iconst cx dX2_gather_6 ?_
  refine z_puti cx hp (T := TX2) tyX2 tyX2_ok nmX2 2 1 (by decide) rfl zin_2 (by decide) (by decide) ra0 rfl rfl rfl fl_X2_25 dX2_gather_7 hf (fun h H locs hp hf => ?_)
  refine lv_aload_n cx.1 cx.2.1 dX2_gather_10 rfl (lv_at hl 0 rfl) ?_
  refine z_gets cx hp (T := TX2) 2 2 (a0 + 2) rfl zin_2 (by decide) (by decide) ra0 rfl fl_X2_15 dX2_gather_11 ?_
  refine z_iconst cx dX2_gather_14 ?_
  refine z_cv cx hp (fun o' hx => zrunS (n := 4) (As := [.ref (B + (a0 + 2)), .int (ii 0)]) (rest := []) cx hp (mJ7_fill_53178 F l g B h (a0 + 2) 0 (zs_2_2 a0 (kt_lt ra0 (by decide)) ra0) (by decide) o' hx) sw_J7_fill_53178 ml_X2_29 (by decide) rfl hl.1 rfl (Nat.le_of_ble_eq_true rfl) dX2_gather_15) hf (fun _ h H locs hp hf => ?_)
  refine z_iconst cx dX2_gather_18 ?_
  refine lv_istore_n (lv' := [(2, .int (ii 1)), (0, .ref (B + a0)), (1, .ref (B + a1))]) cx.1 cx.2.1 dX2_gather_19 rfl hl (by decide) rfl (fun ls hl => ?_)
  refine z_iconst cx dX2_gather_20 ?_
  refine lv_istore_n (lv' := [(3, .int (ii 0)), (2, .int (ii 1)), (0, .ref (B + a0)), (1, .ref (B + a1))]) cx.1 cx.2.1 dX2_gather_21 rfl hl (by decide) rfl (fun ls hl => ?_)
  refine z_jn hf (fun j => ∀  (h : HF) (H : Heap) (locs : List Loc) (ls : Array Slot), Hp g B s h H locs → lv_has ls 4 [] → j  h = some o → W p l e (rmn 4) s m args below meth c H locs 0 0 Q (F0 m 85 ls [])) ?_ (fun j85 hj85 hf => ?_)
  · intro  h H locs ls  hp hl hf
    rw [hQ]; exact z_vret cx hp dX2_gather_85 hf
  exact wX2_gather_22 F cx a0 ra0 j85 hj85 F 1 0 h _ _ ls (by decide) (by decide) hp (lv_sub hl [2, 1, 0] rfl) hf
theorem dX5_tryLaw_0 : decode cX5_tryLaw 0 = .ok (.aload_n 0, 1) := by decide +kernel
theorem dX5_tryLaw_1 : decode cX5_tryLaw 1 = .ok (.iconst 0, 1) := by decide +kernel
theorem dX5_tryLaw_2 : decode cX5_tryLaw 2 = .ok (.putfield 28, 3) := by decide +kernel
theorem dX5_tryLaw_5 : decode cX5_tryLaw 5 = .ok (.aload_n 0, 1) := by decide +kernel
theorem dX5_tryLaw_6 : decode cX5_tryLaw 6 = .ok (.iconst (-1), 1) := by decide +kernel
theorem dX5_tryLaw_7 : decode cX5_tryLaw 7 = .ok (.putfield 31, 3) := by decide +kernel
theorem dX5_tryLaw_10 : decode cX5_tryLaw 10 = .ok (.aload_n 2, 1) := by decide +kernel
theorem dX5_tryLaw_11 : decode cX5_tryLaw 11 = .ok (.getfield 34, 3) := by decide +kernel
theorem dX5_tryLaw_14 : decode cX5_tryLaw 14 = .ok (.iload_n 3, 1) := by decide +kernel
theorem dX5_tryLaw_15 : decode cX5_tryLaw 15 = .ok (.iaload, 1) := by decide +kernel
theorem dX5_tryLaw_16 : decode cX5_tryLaw 16 = .ok (.istore 5, 2) := by decide +kernel
theorem dX5_tryLaw_18 : decode cX5_tryLaw 18 = .ok (.iload 5, 2) := by decide +kernel
theorem dX5_tryLaw_20 : decode cX5_tryLaw 20 = .ok (.iconst 0, 1) := by decide +kernel
theorem dX5_tryLaw_21 : decode cX5_tryLaw 21 = .ok (.invokestatic 37, 3) := by decide +kernel
theorem dX5_tryLaw_24 : decode cX5_tryLaw 24 = .ok (.ifCond .eq 10, 3) := by decide +kernel
theorem dX5_tryLaw_27 : decode cX5_tryLaw 27 = .ok (.aload_n 1, 1) := by decide +kernel
theorem dX5_tryLaw_28 : decode cX5_tryLaw 28 = .ok (.getfield 41, 3) := by decide +kernel
theorem dX5_tryLaw_31 : decode cX5_tryLaw 31 = .ok (.goto 4, 3) := by decide +kernel
theorem dX5_tryLaw_34 : decode cX5_tryLaw 34 = .ok (.iconst 1, 1) := by decide +kernel
theorem dX5_tryLaw_35 : decode cX5_tryLaw 35 = .ok (.istore 6, 2) := by decide +kernel
theorem dX5_tryLaw_37 : decode cX5_tryLaw 37 = .ok (.iload 5, 2) := by decide +kernel
theorem dX5_tryLaw_39 : decode cX5_tryLaw 39 = .ok (.iconst 1, 1) := by decide +kernel
theorem dX5_tryLaw_40 : decode cX5_tryLaw 40 = .ok (.invokestatic 37, 3) := by decide +kernel
theorem dX5_tryLaw_43 : decode cX5_tryLaw 43 = .ok (.ifCond .eq 10, 3) := by decide +kernel
theorem dX5_tryLaw_46 : decode cX5_tryLaw 46 = .ok (.aload_n 1, 1) := by decide +kernel
theorem dX5_tryLaw_47 : decode cX5_tryLaw 47 = .ok (.getfield 41, 3) := by decide +kernel
theorem dX5_tryLaw_50 : decode cX5_tryLaw 50 = .ok (.goto 4, 3) := by decide +kernel
theorem dX5_tryLaw_53 : decode cX5_tryLaw 53 = .ok (.iconst 1, 1) := by decide +kernel
theorem dX5_tryLaw_54 : decode cX5_tryLaw 54 = .ok (.istore 7, 2) := by decide +kernel
theorem dX5_tryLaw_56 : decode cX5_tryLaw 56 = .ok (.iload 5, 2) := by decide +kernel
theorem dX5_tryLaw_58 : decode cX5_tryLaw 58 = .ok (.iconst 2, 1) := by decide +kernel
theorem dX5_tryLaw_59 : decode cX5_tryLaw 59 = .ok (.invokestatic 37, 3) := by decide +kernel
theorem dX5_tryLaw_62 : decode cX5_tryLaw 62 = .ok (.ifCond .eq 10, 3) := by decide +kernel
theorem dX5_tryLaw_65 : decode cX5_tryLaw 65 = .ok (.aload_n 1, 1) := by decide +kernel
theorem dX5_tryLaw_66 : decode cX5_tryLaw 66 = .ok (.getfield 41, 3) := by decide +kernel
theorem dX5_tryLaw_69 : decode cX5_tryLaw 69 = .ok (.goto 4, 3) := by decide +kernel
theorem dX5_tryLaw_72 : decode cX5_tryLaw 72 = .ok (.iconst 1, 1) := by decide +kernel
theorem dX5_tryLaw_73 : decode cX5_tryLaw 73 = .ok (.istore 8, 2) := by decide +kernel
theorem dX5_tryLaw_75 : decode cX5_tryLaw 75 = .ok (.iconst 0, 1) := by decide +kernel
theorem dX5_tryLaw_76 : decode cX5_tryLaw 76 = .ok (.istore 9, 2) := by decide +kernel
theorem dX5_tryLaw_78 : decode cX5_tryLaw 78 = .ok (.iload 9, 2) := by decide +kernel
theorem dX5_tryLaw_80 : decode cX5_tryLaw 80 = .ok (.iload 6, 2) := by decide +kernel
theorem dX5_tryLaw_82 : decode cX5_tryLaw 82 = .ok (.if_icmp .ge 120, 3) := by decide +kernel
theorem dX5_tryLaw_85 : decode cX5_tryLaw 85 = .ok (.iconst 0, 1) := by decide +kernel
theorem dX5_tryLaw_86 : decode cX5_tryLaw 86 = .ok (.istore 10, 2) := by decide +kernel
theorem dX5_tryLaw_88 : decode cX5_tryLaw 88 = .ok (.iload 10, 2) := by decide +kernel
theorem dX5_tryLaw_90 : decode cX5_tryLaw 90 = .ok (.iload 7, 2) := by decide +kernel
theorem dX5_tryLaw_92 : decode cX5_tryLaw 92 = .ok (.if_icmp .ge 104, 3) := by decide +kernel
theorem dX5_tryLaw_95 : decode cX5_tryLaw 95 = .ok (.iconst 0, 1) := by decide +kernel
theorem dX5_tryLaw_96 : decode cX5_tryLaw 96 = .ok (.istore 11, 2) := by decide +kernel
theorem dX5_tryLaw_98 : decode cX5_tryLaw 98 = .ok (.iload 11, 2) := by decide +kernel
theorem dX5_tryLaw_100 : decode cX5_tryLaw 100 = .ok (.iload 8, 2) := by decide +kernel
theorem dX5_tryLaw_102 : decode cX5_tryLaw 102 = .ok (.if_icmp .ge 88, 3) := by decide +kernel
theorem dX5_tryLaw_105 : decode cX5_tryLaw 105 = .ok (.aload_n 0, 1) := by decide +kernel
theorem dX5_tryLaw_106 : decode cX5_tryLaw 106 = .ok (.getfield 9, 3) := by decide +kernel
theorem dX5_tryLaw_109 : decode cX5_tryLaw 109 = .ok (.iconst 0, 1) := by decide +kernel
theorem dX5_tryLaw_110 : decode cX5_tryLaw 110 = .ok (.iload 9, 2) := by decide +kernel
theorem dX5_tryLaw_112 : decode cX5_tryLaw 112 = .ok (.iastore, 1) := by decide +kernel
theorem dX5_tryLaw_113 : decode cX5_tryLaw 113 = .ok (.aload_n 0, 1) := by decide +kernel
theorem dX5_tryLaw_114 : decode cX5_tryLaw 114 = .ok (.getfield 9, 3) := by decide +kernel
theorem dX5_tryLaw_117 : decode cX5_tryLaw 117 = .ok (.iconst 1, 1) := by decide +kernel
theorem dX5_tryLaw_118 : decode cX5_tryLaw 118 = .ok (.iload 10, 2) := by decide +kernel
theorem dX5_tryLaw_120 : decode cX5_tryLaw 120 = .ok (.iastore, 1) := by decide +kernel
theorem dX5_tryLaw_121 : decode cX5_tryLaw 121 = .ok (.aload_n 0, 1) := by decide +kernel
theorem dX5_tryLaw_122 : decode cX5_tryLaw 122 = .ok (.getfield 9, 3) := by decide +kernel
theorem dX5_tryLaw_125 : decode cX5_tryLaw 125 = .ok (.iconst 2, 1) := by decide +kernel
theorem dX5_tryLaw_126 : decode cX5_tryLaw 126 = .ok (.iload 11, 2) := by decide +kernel
theorem dX5_tryLaw_128 : decode cX5_tryLaw 128 = .ok (.iastore, 1) := by decide +kernel
theorem dX5_tryLaw_129 : decode cX5_tryLaw 129 = .ok (.aload_n 0, 1) := by decide +kernel
theorem dX5_tryLaw_130 : decode cX5_tryLaw 130 = .ok (.aload_n 1, 1) := by decide +kernel
theorem dX5_tryLaw_131 : decode cX5_tryLaw 131 = .ok (.aload_n 2, 1) := by decide +kernel
theorem dX5_tryLaw_132 : decode cX5_tryLaw 132 = .ok (.iload_n 3, 1) := by decide +kernel
theorem dX5_tryLaw_133 : decode cX5_tryLaw 133 = .ok (.invokevirtual 46, 3) := by decide +kernel
theorem dX5_tryLaw_136 : decode cX5_tryLaw 136 = .ok (.ifCond .eq 6, 3) := by decide +kernel
theorem dX5_tryLaw_139 : decode cX5_tryLaw 139 = .ok (.goto 45, 3) := by decide +kernel
theorem dX5_tryLaw_142 : decode cX5_tryLaw 142 = .ok (.aload_n 0, 1) := by decide +kernel
theorem dX5_tryLaw_143 : decode cX5_tryLaw 143 = .ok (.dup, 1) := by decide +kernel
theorem dX5_tryLaw_144 : decode cX5_tryLaw 144 = .ok (.getfield 28, 3) := by decide +kernel
theorem dX5_tryLaw_147 : decode cX5_tryLaw 147 = .ok (.iconst 1, 1) := by decide +kernel
theorem dX5_tryLaw_148 : decode cX5_tryLaw 148 = .ok (.iadd, 1) := by decide +kernel
theorem dX5_tryLaw_149 : decode cX5_tryLaw 149 = .ok (.putfield 28, 3) := by decide +kernel
theorem dX5_tryLaw_152 : decode cX5_tryLaw 152 = .ok (.aload_n 0, 1) := by decide +kernel
theorem dX5_tryLaw_153 : decode cX5_tryLaw 153 = .ok (.getfield 28, 3) := by decide +kernel
theorem dX5_tryLaw_156 : decode cX5_tryLaw 156 = .ok (.iconst 1, 1) := by decide +kernel
theorem dX5_tryLaw_157 : decode cX5_tryLaw 157 = .ok (.if_icmp .ne 21, 3) := by decide +kernel
theorem dX5_tryLaw_160 : decode cX5_tryLaw 160 = .ok (.aload_n 0, 1) := by decide +kernel
theorem dX5_tryLaw_161 : decode cX5_tryLaw 161 = .ok (.bipush 49, 2) := by decide +kernel
theorem dX5_tryLaw_163 : decode cX5_tryLaw 163 = .ok (.iload 9, 2) := by decide +kernel
theorem dX5_tryLaw_165 : decode cX5_tryLaw 165 = .ok (.imul, 1) := by decide +kernel
theorem dX5_tryLaw_166 : decode cX5_tryLaw 166 = .ok (.bipush 7, 2) := by decide +kernel
theorem dX5_tryLaw_168 : decode cX5_tryLaw 168 = .ok (.iload 10, 2) := by decide +kernel
theorem dX5_tryLaw_170 : decode cX5_tryLaw 170 = .ok (.imul, 1) := by decide +kernel
theorem dX5_tryLaw_171 : decode cX5_tryLaw 171 = .ok (.iadd, 1) := by decide +kernel
theorem dX5_tryLaw_172 : decode cX5_tryLaw 172 = .ok (.iload 11, 2) := by decide +kernel
theorem dX5_tryLaw_174 : decode cX5_tryLaw 174 = .ok (.iadd, 1) := by decide +kernel
theorem dX5_tryLaw_175 : decode cX5_tryLaw 175 = .ok (.putfield 31, 3) := by decide +kernel
theorem dX5_tryLaw_178 : decode cX5_tryLaw 178 = .ok (.iload 4, 2) := by decide +kernel
theorem dX5_tryLaw_180 : decode cX5_tryLaw 180 = .ok (.ifCond .eq 4, 3) := by decide +kernel
theorem dX5_tryLaw_183 : decode cX5_tryLaw 183 = .ok (.return_, 1) := by decide +kernel
theorem dX5_tryLaw_184 : decode cX5_tryLaw 184 = .ok (.iinc 11 1, 3) := by decide +kernel
theorem dX5_tryLaw_187 : decode cX5_tryLaw 187 = .ok (.goto (-89), 3) := by decide +kernel
theorem dX5_tryLaw_190 : decode cX5_tryLaw 190 = .ok (.iinc 10 1, 3) := by decide +kernel
theorem dX5_tryLaw_193 : decode cX5_tryLaw 193 = .ok (.goto (-105), 3) := by decide +kernel
theorem dX5_tryLaw_196 : decode cX5_tryLaw 196 = .ok (.iinc 9 1, 3) := by decide +kernel
theorem dX5_tryLaw_199 : decode cX5_tryLaw 199 = .ok (.goto (-121), 3) := by decide +kernel
theorem dX5_tryLaw_202 : decode cX5_tryLaw 202 = .ok (.return_, 1) := by decide +kernel
def LX5_tryLaw_98 (F : Nat) (u0 : Nat) (u1 : Nat) (u2 : Nat) (u3 : Int) (u4 : Int) (u6 : Int) (u7 : Int) (u8 : Int) (u9 : Int) (u10 : Int) (k190 : Int → HF → RO) (k183 : HF → RO) : Nat → Int → HF → RO
  | 0, _, _ => none
  | n + 1, v11, h =>
    if v11 < u8 then (
      zwr h (u0 + 1) 0 u9 fun h =>
      zwr h (u0 + 1) 1 u10 fun h =>
      zwr h (u0 + 1) 2 v11 fun h =>
      zbd (fX5_keepsLaw F u0 u1 u2 u3 h) fun r7 h =>
      zjn (fun (x184_11 : Int) (h : HF) => (
        zlet (wr (x184_11 + 1)) fun x8 =>
        LX5_tryLaw_98 F u0 u1 u2 u3 u4 u6 u7 u8 u9 u10 k190 k183 n x8 h
      )) fun j184 =>
      if r7 = 0 then (
        zgf h u0 0 fun x9 =>
        zpf h u0 0 (wr (x9 + 1)) fun h =>
        zgf h u0 0 fun x10 =>
        zjn (fun (x178_11 : Int) (h : HF) => (
          if u4 = 0 then (
            j184 x178_11 h
          ) else (
            k183  h
          )
        )) fun j178 =>
        if x10 = 1 then (
          zpf h u0 1 (wr ((wr ((wr (49 * u9)) + (wr (7 * u10)))) + v11)) fun h =>
          j178 v11 h
        ) else (
          j178 v11 h
        )
      ) else (
        j184 v11 h
      )
    ) else (
      k190 u10 h
    )
set_option maxHeartbeats 4000000 in
set_option maxRecDepth 100000 in
theorem wX5_tryLaw_98 {p : Program} {l : Launch} {e : Env} {s : State} {m : MethodId} {args : Array Value} {below : List Frame} {meth : Method} {c : Code} {Q : State → Prop} {g : zG} {B : Nat} {o : Int × HF} (F : Nat) (cx : Cx p s m args meth c cX5_tryLaw 12 RX5 none g B) (u0 : Nat) (ru0 : kt u0 = 8) (u1 : Nat) (ru1 : kt u1 = 3) (u2 : Nat) (ru2 : kt u2 = 7) (u3 : Int) (ru3 : rng u3) (u4 : Int) (ru4 : rng u4) (u6 : Int) (ru6 : rng u6) (u7 : Int) (ru7 : rng u7) (u8 : Int) (ru8 : rng u8) (u9 : Int) (ru9 : rng u9) (u10 : Int) (ru10 : rng u10) (k190 : Int → HF → RO) (hk190 : ∀ (x10 : Int) (h : HF) (H : Heap) (locs : List Loc) (ls : Array Slot), rng x10 → Hp g B s h H locs → lv_has ls 12 [(0, .ref (B + u0)), (1, .ref (B + u1)), (2, .ref (B + u2)), (3, .int (ii u3)), (4, .int (ii u4)), (6, .int (ii u6)), (7, .int (ii u7)), (8, .int (ii u8)), (9, .int (ii u9)), (10, .int (ii x10))] → k190 x10 h = some o → W p l e (rmn 3) s m args below meth c H locs 0 0 Q (F0 m 190 ls [])) (k183 : HF → RO) (hk183 : ∀  (h : HF) (H : Heap) (locs : List Loc) (ls : Array Slot), Hp g B s h H locs → lv_has ls 12 [] → k183  h = some o → W p l e (rmn 3) s m args below meth c H locs 0 0 Q (F0 m 183 ls [])) : ∀ (n : Nat) (v11 : Int) (h : HF) (H : Heap) (locs : List Loc) (ls : Array Slot), rng v11 → Hp g B s h H locs → lv_has ls 12 [(0, .ref (B + u0)), (1, .ref (B + u1)), (2, .ref (B + u2)), (3, .int (ii u3)), (4, .int (ii u4)), (6, .int (ii u6)), (7, .int (ii u7)), (8, .int (ii u8)), (9, .int (ii u9)), (10, .int (ii u10)), (11, .int (ii v11))] → LX5_tryLaw_98 F u0 u1 u2 u3 u4 u6 u7 u8 u9 u10 k190 k183 n v11 h = some o → W p l e (rmn 3) s m args below meth c H locs 0 0 Q (F0 m 98 ls []) := by
  intro n
  induction n with
  | zero =>
    intro v11 h H locs ls rv11 hp hl hf
    cases hf
  | succ n ih =>
    intro v11 h H locs ls rv11 hp hl hf
    rw [LX5_tryLaw_98] at hf
    refine lv_iload cx.1 cx.2.1 dX5_tryLaw_98 (lv_at hl 10 rfl) ?_
    refine lv_iload cx.1 cx.2.1 dX5_tryLaw_100 (lv_at hl 7 rfl) ?_
    refine z_icmp_ge cx rv11 ru8 (tgt := 190) dX5_tryLaw_102 (by decide) hf (fun _ hf => ?_) (fun _ hf => ?_)
    · refine lv_aload_n cx.1 cx.2.1 dX5_tryLaw_105 rfl (lv_at hl 0 rfl) ?_
      refine z_gets cx hp (T := TX5) 5 3 (u0 + 1) rfl zin_5 (by decide) (by decide) ru0 rfl fl_X5_9 dX5_tryLaw_106 ?_
      refine z_iconst cx dX5_tryLaw_109 ?_
      refine lv_iload cx.1 cx.2.1 dX5_tryLaw_110 (lv_at hl 8 rfl) ?_
      refine z_iast cx hp (zs_5_3 u0 (kt_lt ru0 (by decide)) ru0) (by decide) ru9 dX5_tryLaw_112 hf (fun h H locs hp hf => ?_)
      refine lv_aload_n cx.1 cx.2.1 dX5_tryLaw_113 rfl (lv_at hl 0 rfl) ?_
      refine z_gets cx hp (T := TX5) 5 3 (u0 + 1) rfl zin_5 (by decide) (by decide) ru0 rfl fl_X5_9 dX5_tryLaw_114 ?_
      refine z_iconst cx dX5_tryLaw_117 ?_
      refine lv_iload cx.1 cx.2.1 dX5_tryLaw_118 (lv_at hl 9 rfl) ?_
      refine z_iast cx hp (zs_5_3 u0 (kt_lt ru0 (by decide)) ru0) (by decide) ru10 dX5_tryLaw_120 hf (fun h H locs hp hf => ?_)
      refine lv_aload_n cx.1 cx.2.1 dX5_tryLaw_121 rfl (lv_at hl 0 rfl) ?_
      refine z_gets cx hp (T := TX5) 5 3 (u0 + 1) rfl zin_5 (by decide) (by decide) ru0 rfl fl_X5_9 dX5_tryLaw_122 ?_
      refine z_iconst cx dX5_tryLaw_125 ?_
      refine lv_iload cx.1 cx.2.1 dX5_tryLaw_126 (lv_at hl 10 rfl) ?_
      refine z_iast cx hp (zs_5_3 u0 (kt_lt ru0 (by decide)) ru0) (by decide) rv11 dX5_tryLaw_128 hf (fun h H locs hp hf => ?_)
      refine lv_aload_n cx.1 cx.2.1 dX5_tryLaw_129 rfl (lv_at hl 0 rfl) ?_
      refine lv_aload_n cx.1 cx.2.1 dX5_tryLaw_130 rfl (lv_at hl 1 rfl) ?_
      refine lv_aload_n cx.1 cx.2.1 dX5_tryLaw_131 rfl (lv_at hl 2 rfl) ?_
      refine lv_iload_n cx.1 cx.2.1 dX5_tryLaw_132 rfl (lv_at hl 3 rfl) ?_
      refine z_ci cx hp (fun o' hx => zrunV (n := 3) (As := [.ref (B + u1), .ref (B + u2), .int (ii u3)]) (rest := []) cx hp (mX5_keepsLaw F l g B h u0 u1 u2 u3 ru0 ru1 ru2 ru3 o' hx) 5 ru0 (by decide) rfl vw_X5_keepsLaw ml_X5_46 (by decide) rfl hl.1 rfl (Nat.le_of_ble_eq_true rfl) dX5_tryLaw_133) hf (fun r7 h H locs rr7 hp hf => ?_)
      refine z_jn hf (fun j => ∀ (x184_11 : Int) (h : HF) (H : Heap) (locs : List Loc) (ls : Array Slot), rng x184_11 → Hp g B s h H locs → lv_has ls 12 [(0, .ref (B + u0)), (1, .ref (B + u1)), (2, .ref (B + u2)), (3, .int (ii u3)), (4, .int (ii u4)), (6, .int (ii u6)), (7, .int (ii u7)), (8, .int (ii u8)), (9, .int (ii u9)), (10, .int (ii u10)), (11, .int (ii x184_11))] → j x184_11 h = some o → W p l e (rmn 3) s m args below meth c H locs 0 0 Q (F0 m 184 ls [])) ?_ (fun j184 hj184 hf => ?_)
      · intro x184_11 h H locs ls rx184_11 hp hl hf
        refine z_iinc cx (fun x8 => [(11, .int (ii x8)), (0, .ref (B + u0)), (1, .ref (B + u1)), (2, .ref (B + u2)), (3, .int (ii u3)), (4, .int (ii u4)), (6, .int (ii u6)), (7, .int (ii u7)), (8, .int (ii u8)), (9, .int (ii u9)), (10, .int (ii u10))]) dX5_tryLaw_184 hl (k := 10) rfl (by decide) (fun _ => rfl) hf (fun x8 rx8 hf ls hl => ?_)
        refine lv_goto (tgt := 98) cx.1 cx.2.1 dX5_tryLaw_187 (by decide) ?_
        exact ih x8 h _ _ ls rx8 hp (lv_sub hl [1, 2, 3, 4, 5, 6, 7, 8, 9, 10, 0] rfl) hf
      refine z_if_eq cx rr7 (tgt := 142) dX5_tryLaw_136 (by decide) hf (fun _ hf => ?_) (fun _ hf => ?_)
      · refine lv_aload_n cx.1 cx.2.1 dX5_tryLaw_142 rfl (lv_at hl 0 rfl) ?_
        refine lv_dup cx.1 cx.2.1 dX5_tryLaw_143 rfl ?_
        refine z_geti cx hp (T := TX5) 5 0 rfl zin_5 (by decide) (by decide) ru0 rfl fl_X5_28 dX5_tryLaw_144 hf (fun x9 rx9 hf => ?_)
        refine z_iconst cx dX5_tryLaw_147 ?_
        refine z_iadd cx dX5_tryLaw_148 ?_
        refine z_puti cx hp (T := TX5) tyX5 tyX5_ok nmX5 5 0 (rng_wr _) rfl zin_5 (by decide) (by decide) ru0 rfl rfl rfl fl_X5_28 dX5_tryLaw_149 hf (fun h H locs hp hf => ?_)
        refine lv_aload_n cx.1 cx.2.1 dX5_tryLaw_152 rfl (lv_at hl 0 rfl) ?_
        refine z_geti cx hp (T := TX5) 5 0 rfl zin_5 (by decide) (by decide) ru0 rfl fl_X5_28 dX5_tryLaw_153 hf (fun x10 rx10 hf => ?_)
        refine z_iconst cx dX5_tryLaw_156 ?_
        refine z_jn hf (fun j => ∀ (x178_11 : Int) (h : HF) (H : Heap) (locs : List Loc) (ls : Array Slot), rng x178_11 → Hp g B s h H locs → lv_has ls 12 [(0, .ref (B + u0)), (1, .ref (B + u1)), (2, .ref (B + u2)), (3, .int (ii u3)), (4, .int (ii u4)), (6, .int (ii u6)), (7, .int (ii u7)), (8, .int (ii u8)), (9, .int (ii u9)), (10, .int (ii u10)), (11, .int (ii x178_11))] → j x178_11 h = some o → W p l e (rmn 3) s m args below meth c H locs 0 0 Q (F0 m 178 ls [])) ?_ (fun j178 hj178 hf => ?_)
        · intro x178_11 h H locs ls rx178_11 hp hl hf
          refine lv_iload cx.1 cx.2.1 dX5_tryLaw_178 (lv_at hl 4 rfl) ?_
          refine z_if_eq cx ru4 (tgt := 184) dX5_tryLaw_180 (by decide) hf (fun _ hf => ?_) (fun _ hf => ?_)
          · exact hj184 x178_11 h _ _ ls rx178_11 hp (lv_sub hl [0, 1, 2, 3, 4, 5, 6, 7, 8, 9, 10] rfl) hf
          · exact hk183  h _ _ ls  hp (lv_sub hl [] rfl) hf
        refine z_icmp_ne cx rx10 (by decide) (tgt := 178) dX5_tryLaw_157 (by decide) hf (fun _ hf => ?_) (fun _ hf => ?_)
        · refine lv_aload_n cx.1 cx.2.1 dX5_tryLaw_160 rfl (lv_at hl 0 rfl) ?_
          refine z_bipush cx (by decide) dX5_tryLaw_161 ?_
          refine lv_iload cx.1 cx.2.1 dX5_tryLaw_163 (lv_at hl 8 rfl) ?_
          refine z_imul cx dX5_tryLaw_165 ?_
          refine z_bipush cx (by decide) dX5_tryLaw_166 ?_
          refine lv_iload cx.1 cx.2.1 dX5_tryLaw_168 (lv_at hl 9 rfl) ?_
          refine z_imul cx dX5_tryLaw_170 ?_
          refine z_iadd cx dX5_tryLaw_171 ?_
          refine lv_iload cx.1 cx.2.1 dX5_tryLaw_172 (lv_at hl 10 rfl) ?_
          refine z_iadd cx dX5_tryLaw_174 ?_
          refine z_puti cx hp (T := TX5) tyX5 tyX5_ok nmX5 5 1 (rng_wr _) rfl zin_5 (by decide) (by decide) ru0 rfl rfl rfl fl_X5_31 dX5_tryLaw_175 hf (fun h H locs hp hf => ?_)
          exact hj178 v11 h _ _ ls rv11 hp (lv_sub hl [0, 1, 2, 3, 4, 5, 6, 7, 8, 9, 10] rfl) hf
        · exact hj178 v11 h _ _ ls rv11 hp (lv_sub hl [0, 1, 2, 3, 4, 5, 6, 7, 8, 9, 10] rfl) hf
      · refine lv_goto (tgt := 184) cx.1 cx.2.1 dX5_tryLaw_139 (by decide) ?_
        exact hj184 v11 h _ _ ls rv11 hp (lv_sub hl [0, 1, 2, 3, 4, 5, 6, 7, 8, 9, 10] rfl) hf
    · exact hk190 u10 h _ _ ls ru10 hp (lv_sub hl [0, 1, 2, 3, 4, 5, 6, 7, 8, 9] rfl) hf
def LX5_tryLaw_88 (F : Nat) (u0 : Nat) (u1 : Nat) (u2 : Nat) (u3 : Int) (u4 : Int) (u6 : Int) (u7 : Int) (u8 : Int) (u9 : Int) (k196 : Int → HF → RO) (k183 : HF → RO) : Nat → Int → HF → RO
  | 0, _, _ => none
  | n + 1, v10, h =>
    if v10 < u7 then (
      zjn (fun (x190_10 : Int) (h : HF) => (
        zlet (wr (x190_10 + 1)) fun x6 =>
        LX5_tryLaw_88 F u0 u1 u2 u3 u4 u6 u7 u8 u9 k196 k183 n x6 h
      )) fun j190 =>
      LX5_tryLaw_98 F u0 u1 u2 u3 u4 u6 u7 u8 u9 v10 j190 k183 F 0 h
    ) else (
      k196 u9 h
    )
set_option maxHeartbeats 4000000 in
set_option maxRecDepth 100000 in
theorem wX5_tryLaw_88 {p : Program} {l : Launch} {e : Env} {s : State} {m : MethodId} {args : Array Value} {below : List Frame} {meth : Method} {c : Code} {Q : State → Prop} {g : zG} {B : Nat} {o : Int × HF} (F : Nat) (cx : Cx p s m args meth c cX5_tryLaw 12 RX5 none g B) (u0 : Nat) (ru0 : kt u0 = 8) (u1 : Nat) (ru1 : kt u1 = 3) (u2 : Nat) (ru2 : kt u2 = 7) (u3 : Int) (ru3 : rng u3) (u4 : Int) (ru4 : rng u4) (u6 : Int) (ru6 : rng u6) (u7 : Int) (ru7 : rng u7) (u8 : Int) (ru8 : rng u8) (u9 : Int) (ru9 : rng u9) (k196 : Int → HF → RO) (hk196 : ∀ (x9 : Int) (h : HF) (H : Heap) (locs : List Loc) (ls : Array Slot), rng x9 → Hp g B s h H locs → lv_has ls 12 [(0, .ref (B + u0)), (1, .ref (B + u1)), (2, .ref (B + u2)), (3, .int (ii u3)), (4, .int (ii u4)), (6, .int (ii u6)), (7, .int (ii u7)), (8, .int (ii u8)), (9, .int (ii x9))] → k196 x9 h = some o → W p l e (rmn 3) s m args below meth c H locs 0 0 Q (F0 m 196 ls [])) (k183 : HF → RO) (hk183 : ∀  (h : HF) (H : Heap) (locs : List Loc) (ls : Array Slot), Hp g B s h H locs → lv_has ls 12 [] → k183  h = some o → W p l e (rmn 3) s m args below meth c H locs 0 0 Q (F0 m 183 ls [])) : ∀ (n : Nat) (v10 : Int) (h : HF) (H : Heap) (locs : List Loc) (ls : Array Slot), rng v10 → Hp g B s h H locs → lv_has ls 12 [(0, .ref (B + u0)), (1, .ref (B + u1)), (2, .ref (B + u2)), (3, .int (ii u3)), (4, .int (ii u4)), (6, .int (ii u6)), (7, .int (ii u7)), (8, .int (ii u8)), (9, .int (ii u9)), (10, .int (ii v10))] → LX5_tryLaw_88 F u0 u1 u2 u3 u4 u6 u7 u8 u9 k196 k183 n v10 h = some o → W p l e (rmn 3) s m args below meth c H locs 0 0 Q (F0 m 88 ls []) := by
  intro n
  induction n with
  | zero =>
    intro v10 h H locs ls rv10 hp hl hf
    cases hf
  | succ n ih =>
    intro v10 h H locs ls rv10 hp hl hf
    rw [LX5_tryLaw_88] at hf
    refine lv_iload cx.1 cx.2.1 dX5_tryLaw_88 (lv_at hl 9 rfl) ?_
    refine lv_iload cx.1 cx.2.1 dX5_tryLaw_90 (lv_at hl 6 rfl) ?_
    refine z_icmp_ge cx rv10 ru7 (tgt := 196) dX5_tryLaw_92 (by decide) hf (fun _ hf => ?_) (fun _ hf => ?_)
    · refine z_iconst cx dX5_tryLaw_95 ?_
      refine lv_istore (lv' := [(11, .int (ii 0)), (0, .ref (B + u0)), (1, .ref (B + u1)), (2, .ref (B + u2)), (3, .int (ii u3)), (4, .int (ii u4)), (6, .int (ii u6)), (7, .int (ii u7)), (8, .int (ii u8)), (9, .int (ii u9)), (10, .int (ii v10))]) cx.1 cx.2.1 dX5_tryLaw_96 hl (by decide) rfl (fun ls hl => ?_)
      refine z_jn hf (fun j => ∀ (x190_10 : Int) (h : HF) (H : Heap) (locs : List Loc) (ls : Array Slot), rng x190_10 → Hp g B s h H locs → lv_has ls 12 [(0, .ref (B + u0)), (1, .ref (B + u1)), (2, .ref (B + u2)), (3, .int (ii u3)), (4, .int (ii u4)), (6, .int (ii u6)), (7, .int (ii u7)), (8, .int (ii u8)), (9, .int (ii u9)), (10, .int (ii x190_10))] → j x190_10 h = some o → W p l e (rmn 3) s m args below meth c H locs 0 0 Q (F0 m 190 ls [])) ?_ (fun j190 hj190 hf => ?_)
      · intro x190_10 h H locs ls rx190_10 hp hl hf
        refine z_iinc cx (fun x6 => [(10, .int (ii x6)), (0, .ref (B + u0)), (1, .ref (B + u1)), (2, .ref (B + u2)), (3, .int (ii u3)), (4, .int (ii u4)), (6, .int (ii u6)), (7, .int (ii u7)), (8, .int (ii u8)), (9, .int (ii u9))]) dX5_tryLaw_190 hl (k := 9) rfl (by decide) (fun _ => rfl) hf (fun x6 rx6 hf ls hl => ?_)
        refine lv_goto (tgt := 88) cx.1 cx.2.1 dX5_tryLaw_193 (by decide) ?_
        exact ih x6 h _ _ ls rx6 hp (lv_sub hl [1, 2, 3, 4, 5, 6, 7, 8, 9, 0] rfl) hf
      exact wX5_tryLaw_98 F cx u0 ru0 u1 ru1 u2 ru2 u3 ru3 u4 ru4 u6 ru6 u7 ru7 u8 ru8 u9 ru9 v10 rv10 j190 hj190 k183 hk183 F 0 h _ _ ls (by decide) hp (lv_sub hl [1, 2, 3, 4, 5, 6, 7, 8, 9, 10, 0] rfl) hf
    · exact hk196 u9 h _ _ ls ru9 hp (lv_sub hl [0, 1, 2, 3, 4, 5, 6, 7, 8] rfl) hf
def LX5_tryLaw_78 (F : Nat) (u0 : Nat) (u1 : Nat) (u2 : Nat) (u3 : Int) (u4 : Int) (u6 : Int) (u7 : Int) (u8 : Int) (k202 : HF → RO) (k183 : HF → RO) : Nat → Int → HF → RO
  | 0, _, _ => none
  | n + 1, v9, h =>
    if v9 < u6 then (
      zjn (fun (x196_9 : Int) (h : HF) => (
        zlet (wr (x196_9 + 1)) fun x5 =>
        LX5_tryLaw_78 F u0 u1 u2 u3 u4 u6 u7 u8 k202 k183 n x5 h
      )) fun j196 =>
      LX5_tryLaw_88 F u0 u1 u2 u3 u4 u6 u7 u8 v9 j196 k183 F 0 h
    ) else (
      k202  h
    )
set_option maxHeartbeats 4000000 in
set_option maxRecDepth 100000 in
theorem wX5_tryLaw_78 {p : Program} {l : Launch} {e : Env} {s : State} {m : MethodId} {args : Array Value} {below : List Frame} {meth : Method} {c : Code} {Q : State → Prop} {g : zG} {B : Nat} {o : Int × HF} (F : Nat) (cx : Cx p s m args meth c cX5_tryLaw 12 RX5 none g B) (u0 : Nat) (ru0 : kt u0 = 8) (u1 : Nat) (ru1 : kt u1 = 3) (u2 : Nat) (ru2 : kt u2 = 7) (u3 : Int) (ru3 : rng u3) (u4 : Int) (ru4 : rng u4) (u6 : Int) (ru6 : rng u6) (u7 : Int) (ru7 : rng u7) (u8 : Int) (ru8 : rng u8) (k202 : HF → RO) (hk202 : ∀  (h : HF) (H : Heap) (locs : List Loc) (ls : Array Slot), Hp g B s h H locs → lv_has ls 12 [] → k202  h = some o → W p l e (rmn 3) s m args below meth c H locs 0 0 Q (F0 m 202 ls [])) (k183 : HF → RO) (hk183 : ∀  (h : HF) (H : Heap) (locs : List Loc) (ls : Array Slot), Hp g B s h H locs → lv_has ls 12 [] → k183  h = some o → W p l e (rmn 3) s m args below meth c H locs 0 0 Q (F0 m 183 ls [])) : ∀ (n : Nat) (v9 : Int) (h : HF) (H : Heap) (locs : List Loc) (ls : Array Slot), rng v9 → Hp g B s h H locs → lv_has ls 12 [(0, .ref (B + u0)), (1, .ref (B + u1)), (2, .ref (B + u2)), (3, .int (ii u3)), (4, .int (ii u4)), (6, .int (ii u6)), (7, .int (ii u7)), (8, .int (ii u8)), (9, .int (ii v9))] → LX5_tryLaw_78 F u0 u1 u2 u3 u4 u6 u7 u8 k202 k183 n v9 h = some o → W p l e (rmn 3) s m args below meth c H locs 0 0 Q (F0 m 78 ls []) := by
  intro n
  induction n with
  | zero =>
    intro v9 h H locs ls rv9 hp hl hf
    cases hf
  | succ n ih =>
    intro v9 h H locs ls rv9 hp hl hf
    rw [LX5_tryLaw_78] at hf
    refine lv_iload cx.1 cx.2.1 dX5_tryLaw_78 (lv_at hl 8 rfl) ?_
    refine lv_iload cx.1 cx.2.1 dX5_tryLaw_80 (lv_at hl 5 rfl) ?_
    refine z_icmp_ge cx rv9 ru6 (tgt := 202) dX5_tryLaw_82 (by decide) hf (fun _ hf => ?_) (fun _ hf => ?_)
    · refine z_iconst cx dX5_tryLaw_85 ?_
      refine lv_istore (lv' := [(10, .int (ii 0)), (0, .ref (B + u0)), (1, .ref (B + u1)), (2, .ref (B + u2)), (3, .int (ii u3)), (4, .int (ii u4)), (6, .int (ii u6)), (7, .int (ii u7)), (8, .int (ii u8)), (9, .int (ii v9))]) cx.1 cx.2.1 dX5_tryLaw_86 hl (by decide) rfl (fun ls hl => ?_)
      refine z_jn hf (fun j => ∀ (x196_9 : Int) (h : HF) (H : Heap) (locs : List Loc) (ls : Array Slot), rng x196_9 → Hp g B s h H locs → lv_has ls 12 [(0, .ref (B + u0)), (1, .ref (B + u1)), (2, .ref (B + u2)), (3, .int (ii u3)), (4, .int (ii u4)), (6, .int (ii u6)), (7, .int (ii u7)), (8, .int (ii u8)), (9, .int (ii x196_9))] → j x196_9 h = some o → W p l e (rmn 3) s m args below meth c H locs 0 0 Q (F0 m 196 ls [])) ?_ (fun j196 hj196 hf => ?_)
      · intro x196_9 h H locs ls rx196_9 hp hl hf
        refine z_iinc cx (fun x5 => [(9, .int (ii x5)), (0, .ref (B + u0)), (1, .ref (B + u1)), (2, .ref (B + u2)), (3, .int (ii u3)), (4, .int (ii u4)), (6, .int (ii u6)), (7, .int (ii u7)), (8, .int (ii u8))]) dX5_tryLaw_196 hl (k := 8) rfl (by decide) (fun _ => rfl) hf (fun x5 rx5 hf ls hl => ?_)
        refine lv_goto (tgt := 78) cx.1 cx.2.1 dX5_tryLaw_199 (by decide) ?_
        exact ih x5 h _ _ ls rx5 hp (lv_sub hl [1, 2, 3, 4, 5, 6, 7, 8, 0] rfl) hf
      exact wX5_tryLaw_88 F cx u0 ru0 u1 ru1 u2 ru2 u3 ru3 u4 ru4 u6 ru6 u7 ru7 u8 ru8 v9 rv9 j196 hj196 k183 hk183 F 0 h _ _ ls (by decide) hp (lv_sub hl [1, 2, 3, 4, 5, 6, 7, 8, 9, 0] rfl) hf
    · exact hk202  h _ _ ls  hp (lv_sub hl [] rfl) hf
def fX5_tryLaw (F : Nat) (a0 : Nat) (a1 : Nat) (a2 : Nat) (a3 : Int) (a4 : Int) (h : HF) : RO :=
  zpf h a0 0 0 fun h =>
  zpf h a0 1 (-1) fun h =>
  zrd h (a2 + 2) a3 fun x1 =>
  zbd (fX11_hasBit F x1 0 h) fun r2 h =>
  zjn (fun (x35_5 : Int) (y35_0 : Int) (h : HF) => (
    zbd (fX11_hasBit F x35_5 1 h) fun r3 h =>
    zjn (fun (x54_5 : Int) (x54_6 : Int) (y54_0 : Int) (h : HF) => (
      zbd (fX11_hasBit F x54_5 2 h) fun r4 h =>
      zjn (fun (x73_6 : Int) (x73_7 : Int) (y73_0 : Int) (h : HF) => (
        zjn (fun  (h : HF) => (
          some (0, h)
        )) fun j202 =>
        zjn (fun  (h : HF) => (
          some (0, h)
        )) fun j183 =>
        LX5_tryLaw_78 F a0 a1 a2 a3 a4 x73_6 x73_7 y73_0 j202 j183 F 0 h
      )) fun j73 =>
      if r4 = 0 then (
        j73 x54_6 y54_0 1 h
      ) else (
        zgf h a1 0 fun x11 =>
        j73 x54_6 y54_0 x11 h
      )
    )) fun j54 =>
    if r3 = 0 then (
      j54 x35_5 y35_0 1 h
    ) else (
      zgf h a1 0 fun x12 =>
      j54 x35_5 y35_0 x12 h
    )
  )) fun j35 =>
  if r2 = 0 then (
    j35 x1 1 h
  ) else (
    zgf h a1 0 fun x13 =>
    j35 x1 x13 h
  )
set_option maxHeartbeats 4000000 in
set_option maxRecDepth 100000 in
theorem mX5_tryLaw (F : Nat) (l : Launch) (g : zG) (B : Nat) (h : HF) (a0 : Nat) (a1 : Nat) (a2 : Nat) (a3 : Int) (a4 : Int) (ra0 : kt a0 = 8) (ra1 : kt a1 = 3) (ra2 : kt a2 = 7) (ra3 : rng a3) (ra4 : rng a4) : CTv l g B yX5_tryLaw cX5_tryLaw 12 3 [.ref (B + a0), .ref (B + a1), .ref (B + a2), .int (ii a3), .int (ii a4)] h (fX5_tryLaw F a0 a1 a2 a3 a4 h) := by
  refine z_enterV (by decide) rfl (Nat.le_of_ble_eq_true rfl) ?_
  intro p e s m args below meth c ls o Q cx hp hl hf hQ
  have hl : lv_has ls 12 [(0, .ref (B + a0)), (1, .ref (B + a1)), (2, .ref (B + a2)), (3, .int (ii a3)), (4, .int (ii a4))] := hl
  unfold fX5_tryLaw at hf
  refine lv_aload_n cx.1 cx.2.1 dX5_tryLaw_0 rfl (lv_at hl 0 rfl) ?_
  refine z_iconst cx dX5_tryLaw_1 ?_
  refine z_puti cx hp (T := TX5) tyX5 tyX5_ok nmX5 5 0 (by decide) rfl zin_5 (by decide) (by decide) ra0 rfl rfl rfl fl_X5_28 dX5_tryLaw_2 hf (fun h H locs hp hf => ?_)
  refine lv_aload_n cx.1 cx.2.1 dX5_tryLaw_5 rfl (lv_at hl 0 rfl) ?_
  refine z_iconst cx dX5_tryLaw_6 ?_
  refine z_puti cx hp (T := TX5) tyX5 tyX5_ok nmX5 5 1 (by decide) rfl zin_5 (by decide) (by decide) ra0 rfl rfl rfl fl_X5_31 dX5_tryLaw_7 hf (fun h H locs hp hf => ?_)
  refine lv_aload_n cx.1 cx.2.1 dX5_tryLaw_10 rfl (lv_at hl 2 rfl) ?_
  refine z_gets cx hp (T := TX4) 4 4 (a2 + 2) rfl zin_4 (by decide) (by decide) ra2 rfl fl_X5_34 dX5_tryLaw_11 ?_
  refine lv_iload_n cx.1 cx.2.1 dX5_tryLaw_14 rfl (lv_at hl 3 rfl) ?_
  refine z_iald cx hp (zs_4_4 a2 (kt_lt ra2 (by decide)) ra2) ra3 dX5_tryLaw_15 hf (fun x1 rx1 hf => ?_)
  refine lv_istore (lv' := [(5, .int (ii x1)), (0, .ref (B + a0)), (1, .ref (B + a1)), (2, .ref (B + a2)), (3, .int (ii a3)), (4, .int (ii a4))]) cx.1 cx.2.1 dX5_tryLaw_16 hl (by decide) rfl (fun ls hl => ?_)
  refine lv_iload cx.1 cx.2.1 dX5_tryLaw_18 (lv_at hl 0 rfl) ?_
  refine z_iconst cx dX5_tryLaw_20 ?_
  refine z_ci cx hp (fun o' hx => zrunSN (n := 3) (As := [.int (ii x1), .int (ii 0)]) (rest := []) cx hp (mX11_hasBit F l g B h x1 0 rx1 (by decide) o' hx) sw_X11_hasBit mn_X5_37 (by decide) rfl hl.1 rfl (Nat.le_of_ble_eq_true rfl) dX5_tryLaw_21) hf (fun r2 h H locs rr2 hp hf => ?_)
  refine z_jn hf (fun j => ∀ (x35_5 : Int) (y35_0 : Int) (h : HF) (H : Heap) (locs : List Loc) (ls : Array Slot), rng x35_5 → rng y35_0 → Hp g B s h H locs → lv_has ls 12 [(0, .ref (B + a0)), (1, .ref (B + a1)), (2, .ref (B + a2)), (3, .int (ii a3)), (4, .int (ii a4)), (5, .int (ii x35_5))] → j x35_5 y35_0 h = some o → W p l e (rmn 3) s m args below meth c H locs 0 0 Q (F0 m 35 ls [.int (ii y35_0)])) ?_ (fun j35 hj35 hf => ?_)
  · intro x35_5 y35_0 h H locs ls rx35_5 ry35_0 hp hl hf
    refine lv_istore (lv' := [(6, .int (ii y35_0)), (0, .ref (B + a0)), (1, .ref (B + a1)), (2, .ref (B + a2)), (3, .int (ii a3)), (4, .int (ii a4)), (5, .int (ii x35_5))]) cx.1 cx.2.1 dX5_tryLaw_35 hl (by decide) rfl (fun ls hl => ?_)
    refine lv_iload cx.1 cx.2.1 dX5_tryLaw_37 (lv_at hl 6 rfl) ?_
    refine z_iconst cx dX5_tryLaw_39 ?_
    refine z_ci cx hp (fun o' hx => zrunSN (n := 3) (As := [.int (ii x35_5), .int (ii 1)]) (rest := []) cx hp (mX11_hasBit F l g B h x35_5 1 rx35_5 (by decide) o' hx) sw_X11_hasBit mn_X5_37 (by decide) rfl hl.1 rfl (Nat.le_of_ble_eq_true rfl) dX5_tryLaw_40) hf (fun r3 h H locs rr3 hp hf => ?_)
    refine z_jn hf (fun j => ∀ (x54_5 : Int) (x54_6 : Int) (y54_0 : Int) (h : HF) (H : Heap) (locs : List Loc) (ls : Array Slot), rng x54_5 → rng x54_6 → rng y54_0 → Hp g B s h H locs → lv_has ls 12 [(0, .ref (B + a0)), (1, .ref (B + a1)), (2, .ref (B + a2)), (3, .int (ii a3)), (4, .int (ii a4)), (5, .int (ii x54_5)), (6, .int (ii x54_6))] → j x54_5 x54_6 y54_0 h = some o → W p l e (rmn 3) s m args below meth c H locs 0 0 Q (F0 m 54 ls [.int (ii y54_0)])) ?_ (fun j54 hj54 hf => ?_)
    · intro x54_5 x54_6 y54_0 h H locs ls rx54_5 rx54_6 ry54_0 hp hl hf
      refine lv_istore (lv' := [(7, .int (ii y54_0)), (0, .ref (B + a0)), (1, .ref (B + a1)), (2, .ref (B + a2)), (3, .int (ii a3)), (4, .int (ii a4)), (5, .int (ii x54_5)), (6, .int (ii x54_6))]) cx.1 cx.2.1 dX5_tryLaw_54 hl (by decide) rfl (fun ls hl => ?_)
      refine lv_iload cx.1 cx.2.1 dX5_tryLaw_56 (lv_at hl 6 rfl) ?_
      refine z_iconst cx dX5_tryLaw_58 ?_
      refine z_ci cx hp (fun o' hx => zrunSN (n := 3) (As := [.int (ii x54_5), .int (ii 2)]) (rest := []) cx hp (mX11_hasBit F l g B h x54_5 2 rx54_5 (by decide) o' hx) sw_X11_hasBit mn_X5_37 (by decide) rfl hl.1 rfl (Nat.le_of_ble_eq_true rfl) dX5_tryLaw_59) hf (fun r4 h H locs rr4 hp hf => ?_)
      refine z_jn hf (fun j => ∀ (x73_6 : Int) (x73_7 : Int) (y73_0 : Int) (h : HF) (H : Heap) (locs : List Loc) (ls : Array Slot), rng x73_6 → rng x73_7 → rng y73_0 → Hp g B s h H locs → lv_has ls 12 [(0, .ref (B + a0)), (1, .ref (B + a1)), (2, .ref (B + a2)), (3, .int (ii a3)), (4, .int (ii a4)), (6, .int (ii x73_6)), (7, .int (ii x73_7))] → j x73_6 x73_7 y73_0 h = some o → W p l e (rmn 3) s m args below meth c H locs 0 0 Q (F0 m 73 ls [.int (ii y73_0)])) ?_ (fun j73 hj73 hf => ?_)
      · intro x73_6 x73_7 y73_0 h H locs ls rx73_6 rx73_7 ry73_0 hp hl hf
        refine lv_istore (lv' := [(8, .int (ii y73_0)), (0, .ref (B + a0)), (1, .ref (B + a1)), (2, .ref (B + a2)), (3, .int (ii a3)), (4, .int (ii a4)), (6, .int (ii x73_6)), (7, .int (ii x73_7))]) cx.1 cx.2.1 dX5_tryLaw_73 hl (by decide) rfl (fun ls hl => ?_)
        refine z_iconst cx dX5_tryLaw_75 ?_
        refine lv_istore (lv' := [(9, .int (ii 0)), (8, .int (ii y73_0)), (0, .ref (B + a0)), (1, .ref (B + a1)), (2, .ref (B + a2)), (3, .int (ii a3)), (4, .int (ii a4)), (6, .int (ii x73_6)), (7, .int (ii x73_7))]) cx.1 cx.2.1 dX5_tryLaw_76 hl (by decide) rfl (fun ls hl => ?_)
        refine z_jn hf (fun j => ∀  (h : HF) (H : Heap) (locs : List Loc) (ls : Array Slot), Hp g B s h H locs → lv_has ls 12 [] → j  h = some o → W p l e (rmn 3) s m args below meth c H locs 0 0 Q (F0 m 202 ls [])) ?_ (fun j202 hj202 hf => ?_)
        · intro  h H locs ls  hp hl hf
          rw [hQ]; exact z_vret cx hp dX5_tryLaw_202 hf
        refine z_jn hf (fun j => ∀  (h : HF) (H : Heap) (locs : List Loc) (ls : Array Slot), Hp g B s h H locs → lv_has ls 12 [] → j  h = some o → W p l e (rmn 3) s m args below meth c H locs 0 0 Q (F0 m 183 ls [])) ?_ (fun j183 hj183 hf => ?_)
        · intro  h H locs ls  hp hl hf
          rw [hQ]; exact z_vret cx hp dX5_tryLaw_183 hf
        exact wX5_tryLaw_78 F cx a0 ra0 a1 ra1 a2 ra2 a3 ra3 a4 ra4 x73_6 rx73_6 x73_7 rx73_7 y73_0 ry73_0 j202 hj202 j183 hj183 F 0 h _ _ ls (by decide) hp (lv_sub hl [2, 3, 4, 5, 6, 7, 8, 1, 0] rfl) hf
      refine z_if_eq cx rr4 (tgt := 72) dX5_tryLaw_62 (by decide) hf (fun _ hf => ?_) (fun _ hf => ?_)
      · refine z_iconst cx dX5_tryLaw_72 ?_
        exact hj73 x54_6 y54_0 1 h _ _ ls rx54_6 ry54_0 (by decide) hp (lv_sub hl [1, 2, 3, 4, 5, 7, 0] rfl) hf
      · refine lv_aload_n cx.1 cx.2.1 dX5_tryLaw_65 rfl (lv_at hl 2 rfl) ?_
        refine z_geti cx hp (T := TX0) 0 0 rfl zin_0 (by decide) (by decide) ra1 rfl fl_X5_41 dX5_tryLaw_66 hf (fun x11 rx11 hf => ?_)
        refine lv_goto (tgt := 73) cx.1 cx.2.1 dX5_tryLaw_69 (by decide) ?_
        exact hj73 x54_6 y54_0 x11 h _ _ ls rx54_6 ry54_0 rx11 hp (lv_sub hl [1, 2, 3, 4, 5, 7, 0] rfl) hf
    refine z_if_eq cx rr3 (tgt := 53) dX5_tryLaw_43 (by decide) hf (fun _ hf => ?_) (fun _ hf => ?_)
    · refine z_iconst cx dX5_tryLaw_53 ?_
      exact hj54 x35_5 y35_0 1 h _ _ ls rx35_5 ry35_0 (by decide) hp (lv_sub hl [1, 2, 3, 4, 5, 6, 0] rfl) hf
    · refine lv_aload_n cx.1 cx.2.1 dX5_tryLaw_46 rfl (lv_at hl 2 rfl) ?_
      refine z_geti cx hp (T := TX0) 0 0 rfl zin_0 (by decide) (by decide) ra1 rfl fl_X5_41 dX5_tryLaw_47 hf (fun x12 rx12 hf => ?_)
      refine lv_goto (tgt := 54) cx.1 cx.2.1 dX5_tryLaw_50 (by decide) ?_
      exact hj54 x35_5 y35_0 x12 h _ _ ls rx35_5 ry35_0 rx12 hp (lv_sub hl [1, 2, 3, 4, 5, 6, 0] rfl) hf
  refine z_if_eq cx rr2 (tgt := 34) dX5_tryLaw_24 (by decide) hf (fun _ hf => ?_) (fun _ hf => ?_)
  · refine z_iconst cx dX5_tryLaw_34 ?_
    exact hj35 x1 1 h _ _ ls rx1 (by decide) hp (lv_sub hl [1, 2, 3, 4, 5, 0] rfl) hf
  · refine lv_aload_n cx.1 cx.2.1 dX5_tryLaw_27 rfl (lv_at hl 2 rfl) ?_
    refine z_geti cx hp (T := TX0) 0 0 rfl zin_0 (by decide) (by decide) ra1 rfl fl_X5_41 dX5_tryLaw_28 hf (fun x13 rx13 hf => ?_)
    refine lv_goto (tgt := 35) cx.1 cx.2.1 dX5_tryLaw_31 (by decide) ?_
    exact hj35 x1 x13 h _ _ ls rx1 rx13 hp (lv_sub hl [1, 2, 3, 4, 5, 0] rfl) hf
theorem dX6_seek_0 : decode cX6_seek 0 = .ok (.iconst 0, 1) := by decide +kernel
theorem dX6_seek_1 : decode cX6_seek 1 = .ok (.istore_n 3, 1) := by decide +kernel
theorem dX6_seek_2 : decode cX6_seek 2 = .ok (.iload_n 3, 1) := by decide +kernel
theorem dX6_seek_3 : decode cX6_seek 3 = .ok (.bipush 7, 2) := by decide +kernel
theorem dX6_seek_5 : decode cX6_seek 5 = .ok (.if_icmp .ge 23, 3) := by decide +kernel
theorem dX6_seek_8 : decode cX6_seek 8 = .ok (.aload_n 0, 1) := by decide +kernel
theorem dX6_seek_9 : decode cX6_seek 9 = .ok (.getfield 18, 3) := by decide +kernel
theorem dX6_seek_12 : decode cX6_seek 12 = .ok (.iload_n 3, 1) := by decide +kernel
theorem dX6_seek_13 : decode cX6_seek 13 = .ok (.iload_n 3, 1) := by decide +kernel
theorem dX6_seek_14 : decode cX6_seek 14 = .ok (.iastore, 1) := by decide +kernel
theorem dX6_seek_15 : decode cX6_seek 15 = .ok (.aload_n 0, 1) := by decide +kernel
theorem dX6_seek_16 : decode cX6_seek 16 = .ok (.getfield 21, 3) := by decide +kernel
theorem dX6_seek_19 : decode cX6_seek 19 = .ok (.iload_n 3, 1) := by decide +kernel
theorem dX6_seek_20 : decode cX6_seek 20 = .ok (.iload_n 3, 1) := by decide +kernel
theorem dX6_seek_21 : decode cX6_seek 21 = .ok (.iastore, 1) := by decide +kernel
theorem dX6_seek_22 : decode cX6_seek 22 = .ok (.iinc 3 1, 3) := by decide +kernel
theorem dX6_seek_25 : decode cX6_seek 25 = .ok (.goto (-23), 3) := by decide +kernel
theorem dX6_seek_28 : decode cX6_seek 28 = .ok (.aload_n 0, 1) := by decide +kernel
theorem dX6_seek_29 : decode cX6_seek 29 = .ok (.invokevirtual 24, 3) := by decide +kernel
theorem dX6_seek_32 : decode cX6_seek 32 = .ok (.aload_n 0, 1) := by decide +kernel
theorem dX6_seek_33 : decode cX6_seek 33 = .ok (.iconst 0, 1) := by decide +kernel
theorem dX6_seek_34 : decode cX6_seek 34 = .ok (.putfield 27, 3) := by decide +kernel
theorem dX6_seek_37 : decode cX6_seek 37 = .ok (.iconst 1, 1) := by decide +kernel
theorem dX6_seek_38 : decode cX6_seek 38 = .ok (.istore_n 3, 1) := by decide +kernel
theorem dX6_seek_39 : decode cX6_seek 39 = .ok (.iconst 1, 1) := by decide +kernel
theorem dX6_seek_40 : decode cX6_seek 40 = .ok (.istore 4, 2) := by decide +kernel
theorem dX6_seek_42 : decode cX6_seek 42 = .ok (.iconst 0, 1) := by decide +kernel
theorem dX6_seek_43 : decode cX6_seek 43 = .ok (.istore 5, 2) := by decide +kernel
theorem dX6_seek_45 : decode cX6_seek 45 = .ok (.iload 5, 2) := by decide +kernel
theorem dX6_seek_47 : decode cX6_seek 47 = .ok (.sipush 5040, 3) := by decide +kernel
theorem dX6_seek_50 : decode cX6_seek 50 = .ok (.if_icmp .ge 71, 3) := by decide +kernel
theorem dX6_seek_53 : decode cX6_seek 53 = .ok (.iload 4, 2) := by decide +kernel
theorem dX6_seek_55 : decode cX6_seek 55 = .ok (.ifCond .eq 66, 3) := by decide +kernel
theorem dX6_seek_58 : decode cX6_seek 58 = .ok (.aload_n 0, 1) := by decide +kernel
theorem dX6_seek_59 : decode cX6_seek 59 = .ok (.aload_n 1, 1) := by decide +kernel
theorem dX6_seek_60 : decode cX6_seek 60 = .ok (.invokevirtual 31, 3) := by decide +kernel
theorem dX6_seek_63 : decode cX6_seek 63 = .ok (.istore 6, 2) := by decide +kernel
theorem dX6_seek_65 : decode cX6_seek 65 = .ok (.iload 6, 2) := by decide +kernel
theorem dX6_seek_67 : decode cX6_seek 67 = .ok (.ifCond .ge 23, 3) := by decide +kernel
theorem dX6_seek_70 : decode cX6_seek 70 = .ok (.iconst 0, 1) := by decide +kernel
theorem dX6_seek_71 : decode cX6_seek 71 = .ok (.istore_n 3, 1) := by decide +kernel
theorem dX6_seek_72 : decode cX6_seek 72 = .ok (.iload_n 2, 1) := by decide +kernel
theorem dX6_seek_73 : decode cX6_seek 73 = .ok (.ifCond .eq 5, 3) := by decide +kernel
theorem dX6_seek_76 : decode cX6_seek 76 = .ok (.iconst 0, 1) := by decide +kernel
theorem dX6_seek_77 : decode cX6_seek 77 = .ok (.ireturn, 1) := by decide +kernel
theorem dX6_seek_78 : decode cX6_seek 78 = .ok (.aload_n 0, 1) := by decide +kernel
theorem dX6_seek_79 : decode cX6_seek 79 = .ok (.invokevirtual 24, 3) := by decide +kernel
theorem dX6_seek_82 : decode cX6_seek 82 = .ok (.aload_n 0, 1) := by decide +kernel
theorem dX6_seek_83 : decode cX6_seek 83 = .ok (.iconst 1, 1) := by decide +kernel
theorem dX6_seek_84 : decode cX6_seek 84 = .ok (.putfield 27, 3) := by decide +kernel
theorem dX6_seek_87 : decode cX6_seek 87 = .ok (.goto 18, 3) := by decide +kernel
theorem dX6_seek_90 : decode cX6_seek 90 = .ok (.iload 6, 2) := by decide +kernel
theorem dX6_seek_92 : decode cX6_seek 92 = .ok (.ifCond .ne 13, 3) := by decide +kernel
theorem dX6_seek_95 : decode cX6_seek 95 = .ok (.aload_n 0, 1) := by decide +kernel
theorem dX6_seek_96 : decode cX6_seek 96 = .ok (.dup, 1) := by decide +kernel
theorem dX6_seek_97 : decode cX6_seek 97 = .ok (.getfield 27, 3) := by decide +kernel
theorem dX6_seek_100 : decode cX6_seek 100 = .ok (.iconst 1, 1) := by decide +kernel
theorem dX6_seek_101 : decode cX6_seek 101 = .ok (.iadd, 1) := by decide +kernel
theorem dX6_seek_102 : decode cX6_seek 102 = .ok (.putfield 27, 3) := by decide +kernel
theorem dX6_seek_105 : decode cX6_seek 105 = .ok (.aload_n 0, 1) := by decide +kernel
theorem dX6_seek_106 : decode cX6_seek 106 = .ok (.aload_n 1, 1) := by decide +kernel
theorem dX6_seek_107 : decode cX6_seek 107 = .ok (.getfield 35, 3) := by decide +kernel
theorem dX6_seek_110 : decode cX6_seek 110 = .ok (.invokevirtual 40, 3) := by decide +kernel
theorem dX6_seek_113 : decode cX6_seek 113 = .ok (.istore 4, 2) := by decide +kernel
theorem dX6_seek_115 : decode cX6_seek 115 = .ok (.iinc 5 1, 3) := by decide +kernel
theorem dX6_seek_118 : decode cX6_seek 118 = .ok (.goto (-73), 3) := by decide +kernel
theorem dX6_seek_121 : decode cX6_seek 121 = .ok (.iload_n 3, 1) := by decide +kernel
theorem dX6_seek_122 : decode cX6_seek 122 = .ok (.ireturn, 1) := by decide +kernel
def LX6_seek_45 (F : Nat) (u0 : Nat) (u1 : Nat) (u2 : Int) (k121 : Int → HF → RO) (k76 : HF → RO) : Nat → Int → Int → Int → HF → RO
  | 0, _, _, _, _ => none
  | n + 1, v3, v4, v5, h =>
    if v5 < 5040 then (
      if v4 = 0 then (
        k121 v3 h
      ) else (
        zbd (fX6_compareWithBest F u0 u1 h) fun r2 h =>
        zjn (fun (x105_3 : Int) (x105_5 : Int) (h : HF) => (
          zgf h u1 0 fun x3 =>
          zbd (fX6_nextNumbering F u0 x3 h) fun r4 h =>
          zlet (wr (x105_5 + 1)) fun x5 =>
          LX6_seek_45 F u0 u1 u2 k121 k76 n x105_3 r4 x5 h
        )) fun j105 =>
        if r2 < 0 then (
          if u2 = 0 then (
            zbd (fX6_keepBest F u0 h) fun _ h =>
            zpf h u0 2 1 fun h =>
            j105 0 v5 h
          ) else (
            k76  h
          )
        ) else (
          if r2 = 0 then (
            zgf h u0 2 fun x7 =>
            zpf h u0 2 (wr (x7 + 1)) fun h =>
            j105 v3 v5 h
          ) else (
            j105 v3 v5 h
          )
        )
      )
    ) else (
      k121 v3 h
    )
set_option maxHeartbeats 4000000 in
set_option maxRecDepth 100000 in
theorem wX6_seek_45 {p : Program} {l : Launch} {e : Env} {s : State} {m : MethodId} {args : Array Value} {below : List Frame} {meth : Method} {c : Code} {Q : State → Prop} {g : zG} {B : Nat} {o : Int × HF} (F : Nat) (cx : Cx p s m args meth c cX6_seek 7 RX6 (some .boolean) g B) (u0 : Nat) (ru0 : kt u0 = 9) (u1 : Nat) (ru1 : kt u1 = 3) (u2 : Int) (ru2 : rng u2) (k121 : Int → HF → RO) (hk121 : ∀ (x3 : Int) (h : HF) (H : Heap) (locs : List Loc) (ls : Array Slot), rng x3 → Hp g B s h H locs → lv_has ls 7 [(3, .int (ii x3))] → k121 x3 h = some o → W p l e (rmn 2) s m args below meth c H locs 0 0 Q (F0 m 121 ls [])) (k76 : HF → RO) (hk76 : ∀  (h : HF) (H : Heap) (locs : List Loc) (ls : Array Slot), Hp g B s h H locs → lv_has ls 7 [] → k76  h = some o → W p l e (rmn 2) s m args below meth c H locs 0 0 Q (F0 m 76 ls [])) : ∀ (n : Nat) (v3 : Int) (v4 : Int) (v5 : Int) (h : HF) (H : Heap) (locs : List Loc) (ls : Array Slot), rng v3 → rng v4 → rng v5 → Hp g B s h H locs → lv_has ls 7 [(0, .ref (B + u0)), (1, .ref (B + u1)), (2, .int (ii u2)), (3, .int (ii v3)), (4, .int (ii v4)), (5, .int (ii v5))] → LX6_seek_45 F u0 u1 u2 k121 k76 n v3 v4 v5 h = some o → W p l e (rmn 2) s m args below meth c H locs 0 0 Q (F0 m 45 ls []) := by
  intro n
  induction n with
  | zero =>
    intro v3 v4 v5 h H locs ls rv3 rv4 rv5 hp hl hf
    cases hf
  | succ n ih =>
    intro v3 v4 v5 h H locs ls rv3 rv4 rv5 hp hl hf
    rw [LX6_seek_45] at hf
    refine lv_iload cx.1 cx.2.1 dX6_seek_45 (lv_at hl 5 rfl) ?_
    refine z_sipush cx (by decide) dX6_seek_47 ?_
    refine z_icmp_ge cx rv5 (by decide) (tgt := 121) dX6_seek_50 (by decide) hf (fun _ hf => ?_) (fun _ hf => ?_)
    · refine lv_iload cx.1 cx.2.1 dX6_seek_53 (lv_at hl 4 rfl) ?_
      refine z_if_eq cx rv4 (tgt := 121) dX6_seek_55 (by decide) hf (fun _ hf => ?_) (fun _ hf => ?_)
      · exact hk121 v3 h _ _ ls rv3 hp (lv_sub hl [3] rfl) hf
      · refine lv_aload_n cx.1 cx.2.1 dX6_seek_58 rfl (lv_at hl 0 rfl) ?_
        refine lv_aload_n cx.1 cx.2.1 dX6_seek_59 rfl (lv_at hl 1 rfl) ?_
        refine z_ci cx hp (fun o' hx => zrunV (n := 2) (As := [.ref (B + u1)]) (rest := []) cx hp (mX6_compareWithBest F l g B h u0 u1 ru0 ru1 o' hx) 6 ru0 (by decide) rfl vw_X6_compareWithBest ml_X6_31 (by decide) rfl hl.1 rfl (Nat.le_of_ble_eq_true rfl) dX6_seek_60) hf (fun r2 h H locs rr2 hp hf => ?_)
        refine lv_istore (lv' := [(6, .int (ii r2)), (0, .ref (B + u0)), (1, .ref (B + u1)), (2, .int (ii u2)), (3, .int (ii v3)), (4, .int (ii v4)), (5, .int (ii v5))]) cx.1 cx.2.1 dX6_seek_63 hl (by decide) rfl (fun ls hl => ?_)
        refine lv_iload cx.1 cx.2.1 dX6_seek_65 (lv_at hl 0 rfl) ?_
        refine z_jn hf (fun j => ∀ (x105_3 : Int) (x105_5 : Int) (h : HF) (H : Heap) (locs : List Loc) (ls : Array Slot), rng x105_3 → rng x105_5 → Hp g B s h H locs → lv_has ls 7 [(0, .ref (B + u0)), (1, .ref (B + u1)), (2, .int (ii u2)), (3, .int (ii x105_3)), (5, .int (ii x105_5))] → j x105_3 x105_5 h = some o → W p l e (rmn 2) s m args below meth c H locs 0 0 Q (F0 m 105 ls [])) ?_ (fun j105 hj105 hf => ?_)
        · intro x105_3 x105_5 h H locs ls rx105_3 rx105_5 hp hl hf
          refine lv_aload_n cx.1 cx.2.1 dX6_seek_105 rfl (lv_at hl 0 rfl) ?_
          refine lv_aload_n cx.1 cx.2.1 dX6_seek_106 rfl (lv_at hl 1 rfl) ?_
          refine z_geti cx hp (T := TX0) 0 0 rfl zin_0 (by decide) (by decide) ru1 rfl fl_X6_35 dX6_seek_107 hf (fun x3 rx3 hf => ?_)
          refine z_ci cx hp (fun o' hx => zrunV (n := 2) (As := [.int (ii x3)]) (rest := []) cx hp (mX6_nextNumbering F l g B h u0 x3 ru0 rx3 o' hx) 6 ru0 (by decide) rfl vw_X6_nextNumbering ml_X6_40 (by decide) rfl hl.1 rfl (Nat.le_of_ble_eq_true rfl) dX6_seek_110) hf (fun r4 h H locs rr4 hp hf => ?_)
          refine lv_istore (lv' := [(4, .int (ii r4)), (0, .ref (B + u0)), (1, .ref (B + u1)), (2, .int (ii u2)), (3, .int (ii x105_3)), (5, .int (ii x105_5))]) cx.1 cx.2.1 dX6_seek_113 hl (by decide) rfl (fun ls hl => ?_)
          refine z_iinc cx (fun x5 => [(5, .int (ii x5)), (4, .int (ii r4)), (0, .ref (B + u0)), (1, .ref (B + u1)), (2, .int (ii u2)), (3, .int (ii x105_3))]) dX6_seek_115 hl (k := 5) rfl (by decide) (fun _ => rfl) hf (fun x5 rx5 hf ls hl => ?_)
          refine lv_goto (tgt := 45) cx.1 cx.2.1 dX6_seek_118 (by decide) ?_
          exact ih x105_3 r4 x5 h _ _ ls rx105_3 rr4 rx5 hp (lv_sub hl [2, 3, 4, 5, 1, 0] rfl) hf
        refine z_if_ge cx rr2 (tgt := 90) dX6_seek_67 (by decide) hf (fun _ hf => ?_) (fun _ hf => ?_)
        · refine z_iconst cx dX6_seek_70 ?_
          refine lv_istore_n (lv' := [(3, .int (ii 0)), (6, .int (ii r2)), (0, .ref (B + u0)), (1, .ref (B + u1)), (2, .int (ii u2)), (4, .int (ii v4)), (5, .int (ii v5))]) cx.1 cx.2.1 dX6_seek_71 rfl hl (by decide) rfl (fun ls hl => ?_)
          refine lv_iload_n cx.1 cx.2.1 dX6_seek_72 rfl (lv_at hl 4 rfl) ?_
          refine z_if_eq cx ru2 (tgt := 78) dX6_seek_73 (by decide) hf (fun _ hf => ?_) (fun _ hf => ?_)
          · refine lv_aload_n cx.1 cx.2.1 dX6_seek_78 rfl (lv_at hl 2 rfl) ?_
            refine z_cv cx hp (fun o' hx => zrunV (n := 2) (As := []) (rest := []) cx hp (mX6_keepBest F l g B h u0 ru0 o' hx) 6 ru0 (by decide) rfl vw_X6_keepBest ml_X6_24 (by decide) rfl hl.1 rfl (Nat.le_of_ble_eq_true rfl) dX6_seek_79) hf (fun _ h H locs hp hf => ?_)
            refine lv_aload_n cx.1 cx.2.1 dX6_seek_82 rfl (lv_at hl 2 rfl) ?_
            refine z_iconst cx dX6_seek_83 ?_
            refine z_puti cx hp (T := TX6) tyX6 tyX6_ok nmX6 6 2 (by decide) rfl zin_6 (by decide) (by decide) ru0 rfl rfl rfl fl_X6_27 dX6_seek_84 hf (fun h H locs hp hf => ?_)
            refine lv_goto (tgt := 105) cx.1 cx.2.1 dX6_seek_87 (by decide) ?_
            exact hj105 0 v5 h _ _ ls (by decide) rv5 hp (lv_sub hl [2, 3, 4, 0, 6] rfl) hf
          · exact hk76  h _ _ ls  hp (lv_sub hl [] rfl) hf
        · refine lv_iload cx.1 cx.2.1 dX6_seek_90 (lv_at hl 0 rfl) ?_
          refine z_if_ne cx rr2 (tgt := 105) dX6_seek_92 (by decide) hf (fun _ hf => ?_) (fun _ hf => ?_)
          · refine lv_aload_n cx.1 cx.2.1 dX6_seek_95 rfl (lv_at hl 1 rfl) ?_
            refine lv_dup cx.1 cx.2.1 dX6_seek_96 rfl ?_
            refine z_geti cx hp (T := TX6) 6 2 rfl zin_6 (by decide) (by decide) ru0 rfl fl_X6_27 dX6_seek_97 hf (fun x7 rx7 hf => ?_)
            refine z_iconst cx dX6_seek_100 ?_
            refine z_iadd cx dX6_seek_101 ?_
            refine z_puti cx hp (T := TX6) tyX6 tyX6_ok nmX6 6 2 (rng_wr _) rfl zin_6 (by decide) (by decide) ru0 rfl rfl rfl fl_X6_27 dX6_seek_102 hf (fun h H locs hp hf => ?_)
            exact hj105 v3 v5 h _ _ ls rv3 rv5 hp (lv_sub hl [1, 2, 3, 4, 6] rfl) hf
          · exact hj105 v3 v5 h _ _ ls rv3 rv5 hp (lv_sub hl [1, 2, 3, 4, 6] rfl) hf
    · exact hk121 v3 h _ _ ls rv3 hp (lv_sub hl [3] rfl) hf
def LX6_seek_2 (F : Nat) (u0 : Nat) (u1 : Nat) (u2 : Int) (k28 : HF → RO) : Nat → Int → HF → RO
  | 0, _, _ => none
  | n + 1, v3, h =>
    if v3 < 7 then (
      zwr h (u0 + 3) v3 v3 fun h =>
      zwr h (u0 + 4) v3 v3 fun h =>
      zlet (wr (v3 + 1)) fun x8 =>
      LX6_seek_2 F u0 u1 u2 k28 n x8 h
    ) else (
      k28  h
    )
set_option maxHeartbeats 4000000 in
set_option maxRecDepth 100000 in
theorem wX6_seek_2 {p : Program} {l : Launch} {e : Env} {s : State} {m : MethodId} {args : Array Value} {below : List Frame} {meth : Method} {c : Code} {Q : State → Prop} {g : zG} {B : Nat} {o : Int × HF} (F : Nat) (cx : Cx p s m args meth c cX6_seek 7 RX6 (some .boolean) g B) (u0 : Nat) (ru0 : kt u0 = 9) (u1 : Nat) (ru1 : kt u1 = 3) (u2 : Int) (ru2 : rng u2) (k28 : HF → RO) (hk28 : ∀  (h : HF) (H : Heap) (locs : List Loc) (ls : Array Slot), Hp g B s h H locs → lv_has ls 7 [(0, .ref (B + u0)), (1, .ref (B + u1)), (2, .int (ii u2))] → k28  h = some o → W p l e (rmn 2) s m args below meth c H locs 0 0 Q (F0 m 28 ls [])) : ∀ (n : Nat) (v3 : Int) (h : HF) (H : Heap) (locs : List Loc) (ls : Array Slot), rng v3 → Hp g B s h H locs → lv_has ls 7 [(0, .ref (B + u0)), (1, .ref (B + u1)), (2, .int (ii u2)), (3, .int (ii v3))] → LX6_seek_2 F u0 u1 u2 k28 n v3 h = some o → W p l e (rmn 2) s m args below meth c H locs 0 0 Q (F0 m 2 ls []) := by
  intro n
  induction n with
  | zero =>
    intro v3 h H locs ls rv3 hp hl hf
    cases hf
  | succ n ih =>
    intro v3 h H locs ls rv3 hp hl hf
    rw [LX6_seek_2] at hf
    refine lv_iload_n cx.1 cx.2.1 dX6_seek_2 rfl (lv_at hl 3 rfl) ?_
    refine z_bipush cx (by decide) dX6_seek_3 ?_
    refine z_icmp_ge cx rv3 (by decide) (tgt := 28) dX6_seek_5 (by decide) hf (fun _ hf => ?_) (fun _ hf => ?_)
    · refine lv_aload_n cx.1 cx.2.1 dX6_seek_8 rfl (lv_at hl 0 rfl) ?_
      refine z_gets cx hp (T := TX6) 6 4 (u0 + 3) rfl zin_6 (by decide) (by decide) ru0 rfl fl_X6_18 dX6_seek_9 ?_
      refine lv_iload_n cx.1 cx.2.1 dX6_seek_12 rfl (lv_at hl 3 rfl) ?_
      refine lv_iload_n cx.1 cx.2.1 dX6_seek_13 rfl (lv_at hl 3 rfl) ?_
      refine z_iast cx hp (zs_6_4 u0 (kt_lt ru0 (by decide)) ru0) rv3 rv3 dX6_seek_14 hf (fun h H locs hp hf => ?_)
      refine lv_aload_n cx.1 cx.2.1 dX6_seek_15 rfl (lv_at hl 0 rfl) ?_
      refine z_gets cx hp (T := TX6) 6 5 (u0 + 4) rfl zin_6 (by decide) (by decide) ru0 rfl fl_X6_21 dX6_seek_16 ?_
      refine lv_iload_n cx.1 cx.2.1 dX6_seek_19 rfl (lv_at hl 3 rfl) ?_
      refine lv_iload_n cx.1 cx.2.1 dX6_seek_20 rfl (lv_at hl 3 rfl) ?_
      refine z_iast cx hp (zs_6_5 u0 (kt_lt ru0 (by decide)) ru0) rv3 rv3 dX6_seek_21 hf (fun h H locs hp hf => ?_)
      refine z_iinc cx (fun x8 => [(3, .int (ii x8)), (0, .ref (B + u0)), (1, .ref (B + u1)), (2, .int (ii u2))]) dX6_seek_22 hl (k := 3) rfl (by decide) (fun _ => rfl) hf (fun x8 rx8 hf ls hl => ?_)
      refine lv_goto (tgt := 2) cx.1 cx.2.1 dX6_seek_25 (by decide) ?_
      exact ih x8 h _ _ ls rx8 hp (lv_sub hl [1, 2, 3, 0] rfl) hf
    · exact hk28  h _ _ ls  hp (lv_sub hl [0, 1, 2] rfl) hf
def fX6_seek (F : Nat) (a0 : Nat) (a1 : Nat) (a2 : Int) (h : HF) : RO :=
  zjn (fun  (h : HF) => (
    zbd (fX6_keepBest F a0 h) fun _ h =>
    zpf h a0 2 0 fun h =>
    zjn (fun (x121_3 : Int) (h : HF) => (
      zrz x121_3 h
    )) fun j121 =>
    zjn (fun  (h : HF) => (
      zrz 0 h
    )) fun j76 =>
    LX6_seek_45 F a0 a1 a2 j121 j76 F 1 1 0 h
  )) fun j28 =>
  LX6_seek_2 F a0 a1 a2 j28 F 0 h
set_option maxHeartbeats 4000000 in
set_option maxRecDepth 100000 in
theorem mX6_seek (F : Nat) (l : Launch) (g : zG) (B : Nat) (h : HF) (a0 : Nat) (a1 : Nat) (a2 : Int) (ra0 : kt a0 = 9) (ra1 : kt a1 = 3) (ra2 : rng a2) : CTi l g B yX6_seek cX6_seek 7 (some .boolean) 2 [.ref (B + a0), .ref (B + a1), .int (ii a2)] h (fX6_seek F a0 a1 a2 h) := by
  refine z_enterI (by decide) rfl (Nat.le_of_ble_eq_true rfl) ?_
  intro p e s m args below meth c ls o Q cx hp hl hf hQ
  have hl : lv_has ls 7 [(0, .ref (B + a0)), (1, .ref (B + a1)), (2, .int (ii a2))] := hl
  unfold fX6_seek at hf
  refine z_iconst cx dX6_seek_0 ?_
  refine lv_istore_n (lv' := [(3, .int (ii 0)), (0, .ref (B + a0)), (1, .ref (B + a1)), (2, .int (ii a2))]) cx.1 cx.2.1 dX6_seek_1 rfl hl (by decide) rfl (fun ls hl => ?_)
  refine z_jn hf (fun j => ∀  (h : HF) (H : Heap) (locs : List Loc) (ls : Array Slot), Hp g B s h H locs → lv_has ls 7 [(0, .ref (B + a0)), (1, .ref (B + a1)), (2, .int (ii a2))] → j  h = some o → W p l e (rmn 2) s m args below meth c H locs 0 0 Q (F0 m 28 ls [])) ?_ (fun j28 hj28 hf => ?_)
  · intro  h H locs ls  hp hl hf
    refine lv_aload_n cx.1 cx.2.1 dX6_seek_28 rfl (lv_at hl 0 rfl) ?_
    refine z_cv cx hp (fun o' hx => zrunV (n := 2) (As := []) (rest := []) cx hp (mX6_keepBest F l g B h a0 ra0 o' hx) 6 ra0 (by decide) rfl vw_X6_keepBest ml_X6_24 (by decide) rfl hl.1 rfl (Nat.le_of_ble_eq_true rfl) dX6_seek_29) hf (fun _ h H locs hp hf => ?_)
    refine lv_aload_n cx.1 cx.2.1 dX6_seek_32 rfl (lv_at hl 0 rfl) ?_
    refine z_iconst cx dX6_seek_33 ?_
    refine z_puti cx hp (T := TX6) tyX6 tyX6_ok nmX6 6 2 (by decide) rfl zin_6 (by decide) (by decide) ra0 rfl rfl rfl fl_X6_27 dX6_seek_34 hf (fun h H locs hp hf => ?_)
    refine z_iconst cx dX6_seek_37 ?_
    refine lv_istore_n (lv' := [(3, .int (ii 1)), (0, .ref (B + a0)), (1, .ref (B + a1)), (2, .int (ii a2))]) cx.1 cx.2.1 dX6_seek_38 rfl hl (by decide) rfl (fun ls hl => ?_)
    refine z_iconst cx dX6_seek_39 ?_
    refine lv_istore (lv' := [(4, .int (ii 1)), (3, .int (ii 1)), (0, .ref (B + a0)), (1, .ref (B + a1)), (2, .int (ii a2))]) cx.1 cx.2.1 dX6_seek_40 hl (by decide) rfl (fun ls hl => ?_)
    refine z_iconst cx dX6_seek_42 ?_
    refine lv_istore (lv' := [(5, .int (ii 0)), (4, .int (ii 1)), (3, .int (ii 1)), (0, .ref (B + a0)), (1, .ref (B + a1)), (2, .int (ii a2))]) cx.1 cx.2.1 dX6_seek_43 hl (by decide) rfl (fun ls hl => ?_)
    refine z_jn hf (fun j => ∀ (x121_3 : Int) (h : HF) (H : Heap) (locs : List Loc) (ls : Array Slot), rng x121_3 → Hp g B s h H locs → lv_has ls 7 [(3, .int (ii x121_3))] → j x121_3 h = some o → W p l e (rmn 2) s m args below meth c H locs 0 0 Q (F0 m 121 ls [])) ?_ (fun j121 hj121 hf => ?_)
    · intro x121_3 h H locs ls rx121_3 hp hl hf
      refine lv_iload_n cx.1 cx.2.1 dX6_seek_121 rfl (lv_at hl 0 rfl) ?_
      rw [hQ]; exact z_zret cx hp dX6_seek_122 hf
    refine z_jn hf (fun j => ∀  (h : HF) (H : Heap) (locs : List Loc) (ls : Array Slot), Hp g B s h H locs → lv_has ls 7 [] → j  h = some o → W p l e (rmn 2) s m args below meth c H locs 0 0 Q (F0 m 76 ls [])) ?_ (fun j76 hj76 hf => ?_)
    · intro  h H locs ls  hp hl hf
      refine z_iconst cx dX6_seek_76 ?_
      rw [hQ]; exact z_zret cx hp dX6_seek_77 hf
    exact wX6_seek_45 F cx a0 ra0 a1 ra1 a2 ra2 j121 hj121 j76 hj76 F 1 1 0 h _ _ ls (by decide) (by decide) (by decide) hp (lv_sub hl [3, 4, 5, 2, 1, 0] rfl) hf
  exact wX6_seek_2 F cx a0 ra0 a1 ra1 a2 ra2 j28 hj28 F 0 h _ _ ls (by decide) hp (lv_sub hl [1, 2, 3, 0] rfl) hf
theorem dX7_extend_0 : decode cX7_extend 0 = .ok (.iload_n 1, 1) := by decide +kernel
theorem dX7_extend_1 : decode cX7_extend 1 = .ok (.aload_n 0, 1) := by decide +kernel
theorem dX7_extend_2 : decode cX7_extend 2 = .ok (.getfield 30, 3) := by decide +kernel
theorem dX7_extend_5 : decode cX7_extend 5 = .ok (.getfield 64, 3) := by decide +kernel
theorem dX7_extend_8 : decode cX7_extend 8 = .ok (.if_icmp .lt 8, 3) := by decide +kernel
theorem dX7_extend_11 : decode cX7_extend 11 = .ok (.aload_n 0, 1) := by decide +kernel
theorem dX7_extend_12 : decode cX7_extend 12 = .ok (.invokevirtual 92, 3) := by decide +kernel
theorem dX7_extend_15 : decode cX7_extend 15 = .ok (.return_, 1) := by decide +kernel
theorem dX7_extend_16 : decode cX7_extend 16 = .ok (.iconst 0, 1) := by decide +kernel
theorem dX7_extend_17 : decode cX7_extend 17 = .ok (.istore_n 3, 1) := by decide +kernel
theorem dX7_extend_18 : decode cX7_extend 18 = .ok (.iload_n 3, 1) := by decide +kernel
theorem dX7_extend_19 : decode cX7_extend 19 = .ok (.aload_n 0, 1) := by decide +kernel
theorem dX7_extend_20 : decode cX7_extend 20 = .ok (.getfield 34, 3) := by decide +kernel
theorem dX7_extend_23 : decode cX7_extend 23 = .ok (.getfield 64, 3) := by decide +kernel
theorem dX7_extend_26 : decode cX7_extend 26 = .ok (.if_icmp .ge 23, 3) := by decide +kernel
theorem dX7_extend_29 : decode cX7_extend 29 = .ok (.aload_n 0, 1) := by decide +kernel
theorem dX7_extend_30 : decode cX7_extend 30 = .ok (.getfield 48, 3) := by decide +kernel
theorem dX7_extend_33 : decode cX7_extend 33 = .ok (.ifCond .ne 16, 3) := by decide +kernel
theorem dX7_extend_36 : decode cX7_extend 36 = .ok (.aload_n 0, 1) := by decide +kernel
theorem dX7_extend_37 : decode cX7_extend 37 = .ok (.iload_n 1, 1) := by decide +kernel
theorem dX7_extend_38 : decode cX7_extend 38 = .ok (.iload_n 3, 1) := by decide +kernel
theorem dX7_extend_39 : decode cX7_extend 39 = .ok (.iload_n 2, 1) := by decide +kernel
theorem dX7_extend_40 : decode cX7_extend 40 = .ok (.invokevirtual 95, 3) := by decide +kernel
theorem dX7_extend_43 : decode cX7_extend 43 = .ok (.iinc 3 1, 3) := by decide +kernel
theorem dX7_extend_46 : decode cX7_extend 46 = .ok (.goto (-28), 3) := by decide +kernel
theorem dX7_extend_49 : decode cX7_extend 49 = .ok (.return_, 1) := by decide +kernel
def LX7_extend_18 (F : Nat) (rf : Nat → Int → Int → HF → RO) (u0 : Nat) (u1 : Int) (u2 : Int) (k49 : HF → RO) : Nat → Int → HF → RO
  | 0, _, _ => none
  | n + 1, v3, h =>
    zgd h u0 3 fun x3 =>
    zgf h x3 0 fun x4 =>
    if v3 < x4 then (
      zgf h u0 7 fun x5 =>
      if x5 = 0 then (
        zbd (fX7_give F rf u0 u1 v3 u2 h) fun _ h =>
        zlet (wr (v3 + 1)) fun x7 =>
        LX7_extend_18 F rf u0 u1 u2 k49 n x7 h
      ) else (
        k49  h
      )
    ) else (
      k49  h
    )
set_option maxHeartbeats 4000000 in
set_option maxRecDepth 100000 in
theorem wX7_extend_18 {p : Program} {l : Launch} {e : Env} {s : State} {m : MethodId} {args : Array Value} {below : List Frame} {meth : Method} {c : Code} {Q : State → Prop} {g : zG} {B : Nat} {o : Int × HF} (F : Nat) (cx : Cx p s m args meth c cX7_extend 4 RX7 none g B) (rf : Nat → Int → Int → HF → RO) (kr : Nat) (hkr : 2 ≤ kr) (hrf : ∀ (h : HF) (b0 : Nat) (b1 : Int) (b2 : Int), kt b0 = 10 → rng b1 → rng b2 → CTv l g B yX7_extend cX7_extend 4 kr [.ref (B + b0), .int (ii b1), .int (ii b2)] h (rf b0 b1 b2 h)) (u0 : Nat) (ru0 : kt u0 = 10) (u1 : Int) (ru1 : rng u1) (u2 : Int) (ru2 : rng u2) (k49 : HF → RO) (hk49 : ∀  (h : HF) (H : Heap) (locs : List Loc) (ls : Array Slot), Hp g B s h H locs → lv_has ls 4 [] → k49  h = some o → W p l e (rmn (kr + 4)) s m args below meth c H locs 0 0 Q (F0 m 49 ls [])) : ∀ (n : Nat) (v3 : Int) (h : HF) (H : Heap) (locs : List Loc) (ls : Array Slot), rng v3 → Hp g B s h H locs → lv_has ls 4 [(0, .ref (B + u0)), (1, .int (ii u1)), (2, .int (ii u2)), (3, .int (ii v3))] → LX7_extend_18 F rf u0 u1 u2 k49 n v3 h = some o → W p l e (rmn (kr + 4)) s m args below meth c H locs 0 0 Q (F0 m 18 ls []) := by
  intro n
  induction n with
  | zero =>
    intro v3 h H locs ls rv3 hp hl hf
    cases hf
  | succ n ih =>
    intro v3 h H locs ls rv3 hp hl hf
    rw [LX7_extend_18] at hf
    refine lv_iload_n cx.1 cx.2.1 dX7_extend_18 rfl (lv_at hl 3 rfl) ?_
    refine lv_aload_n cx.1 cx.2.1 dX7_extend_19 rfl (lv_at hl 0 rfl) ?_
    refine z_getd cx hp (T := TX7) 7 3 3 rfl zin_7 (by decide) (by decide) ru0 rfl fl_X7_34 dX7_extend_20 hf (fun x3 rx3 hf => ?_)
    refine z_geti cx hp (T := TX0) 0 0 rfl zin_0 (by decide) (by decide) rx3 rfl fl_X7_64 dX7_extend_23 hf (fun x4 rx4 hf => ?_)
    refine z_icmp_ge cx rv3 rx4 (tgt := 49) dX7_extend_26 (by decide) hf (fun _ hf => ?_) (fun _ hf => ?_)
    · refine lv_aload_n cx.1 cx.2.1 dX7_extend_29 rfl (lv_at hl 0 rfl) ?_
      refine z_getz cx hp (T := TX7) 7 7 rfl zin_7 (by decide) (by decide) ru0 rfl fl_X7_48 dX7_extend_30 hf (fun x5 rx5 hf => ?_)
      refine z_if_ne cx rx5 (tgt := 49) dX7_extend_33 (by decide) hf (fun _ hf => ?_) (fun _ hf => ?_)
      · refine lv_aload_n cx.1 cx.2.1 dX7_extend_36 rfl (lv_at hl 0 rfl) ?_
        refine lv_iload_n cx.1 cx.2.1 dX7_extend_37 rfl (lv_at hl 1 rfl) ?_
        refine lv_iload_n cx.1 cx.2.1 dX7_extend_38 rfl (lv_at hl 3 rfl) ?_
        refine lv_iload_n cx.1 cx.2.1 dX7_extend_39 rfl (lv_at hl 2 rfl) ?_
        refine z_cv cx hp (fun o' hx => zrunV (n := (kr + 4)) (As := [.int (ii u1), .int (ii v3), .int (ii u2)]) (rest := []) cx hp (mX7_give F rf kr l g B hrf h u0 u1 v3 u2 ru0 ru1 rv3 ru2 o' hx) 7 ru0 (by decide) rfl vw_X7_give ml_X7_95 (by omega) rfl hl.1 rfl (Nat.le_of_ble_eq_true rfl) dX7_extend_40) hf (fun _ h H locs hp hf => ?_)
        refine z_iinc cx (fun x7 => [(3, .int (ii x7)), (0, .ref (B + u0)), (1, .int (ii u1)), (2, .int (ii u2))]) dX7_extend_43 hl (k := 3) rfl (by decide) (fun _ => rfl) hf (fun x7 rx7 hf ls hl => ?_)
        refine lv_goto (tgt := 18) cx.1 cx.2.1 dX7_extend_46 (by decide) ?_
        exact ih x7 h _ _ ls rx7 hp (lv_sub hl [1, 2, 3, 0] rfl) hf
      · exact hk49  h _ _ ls  hp (lv_sub hl [] rfl) hf
    · exact hk49  h _ _ ls  hp (lv_sub hl [] rfl) hf
def fX7_extend (F : Nat) : Nat → Nat → Int → Int → HF → RO
  | 0, _, _, _, _ => none
  | D + 1, a0, a1, a2, h =>
    zgd h a0 2 fun x1 =>
    zgf h x1 0 fun x2 =>
    if a1 < x2 then (
      zjn (fun  (h : HF) => (
        some (0, h)
      )) fun j49 =>
      LX7_extend_18 F (fX7_extend F D) a0 a1 a2 j49 F 0 h
    ) else (
      zbd (fX7_meet F a0 h) fun _ h =>
      some (0, h)
    )
set_option maxHeartbeats 4000000 in
set_option maxRecDepth 100000 in
theorem mX7_extend (F : Nat) (l : Launch) (g : zG) (B : Nat) : ∀ (D : Nat) (h : HF) (a0 : Nat) (a1 : Int) (a2 : Int) (ra0 : kt a0 = 10) (ra1 : rng a1) (ra2 : rng a2), CTv l g B yX7_extend cX7_extend 4 (2 + 4 * D) [.ref (B + a0), .int (ii a1), .int (ii a2)] h (fX7_extend F D a0 a1 a2 h) := by
  intro D
  induction D with
  | zero =>
    intro h a0 a1 a2 ra0 ra1 ra2 o hx
    cases hx
  | succ D ihD =>
    intro h a0 a1 a2 ra0 ra1 ra2
    refine z_enterV (by decide) rfl (Nat.le_of_ble_eq_true rfl) ?_
    intro p e s m args below meth c ls o Q cx hp hl hf hQ
    have hl : lv_has ls 4 [(0, .ref (B + a0)), (1, .int (ii a1)), (2, .int (ii a2))] := hl
    rw [fX7_extend] at hf
    refine lv_iload_n cx.1 cx.2.1 dX7_extend_0 rfl (lv_at hl 1 rfl) ?_
    refine lv_aload_n cx.1 cx.2.1 dX7_extend_1 rfl (lv_at hl 0 rfl) ?_
    refine z_getd cx hp (T := TX7) 7 2 3 rfl zin_7 (by decide) (by decide) ra0 rfl fl_X7_30 dX7_extend_2 hf (fun x1 rx1 hf => ?_)
    refine z_geti cx hp (T := TX0) 0 0 rfl zin_0 (by decide) (by decide) rx1 rfl fl_X7_64 dX7_extend_5 hf (fun x2 rx2 hf => ?_)
    refine z_icmp_lt cx ra1 rx2 (tgt := 16) dX7_extend_8 (by decide) hf (fun _ hf => ?_) (fun _ hf => ?_)
    · refine z_iconst cx dX7_extend_16 ?_
      refine lv_istore_n (lv' := [(3, .int (ii 0)), (0, .ref (B + a0)), (1, .int (ii a1)), (2, .int (ii a2))]) cx.1 cx.2.1 dX7_extend_17 rfl hl (by decide) rfl (fun ls hl => ?_)
      refine z_jn hf (fun j => ∀  (h : HF) (H : Heap) (locs : List Loc) (ls : Array Slot), Hp g B s h H locs → lv_has ls 4 [] → j  h = some o → W p l e (rmn (2 + 4 * (D + 1))) s m args below meth c H locs 0 0 Q (F0 m 49 ls [])) ?_ (fun j49 hj49 hf => ?_)
      · intro  h H locs ls  hp hl hf
        rw [hQ]; exact z_vret cx hp dX7_extend_49 hf
      exact wX7_extend_18 F cx (fX7_extend F D) (2 + 4 * D) (by omega) ihD a0 ra0 a1 ra1 a2 ra2 j49 hj49 F 0 h _ _ ls (by decide) hp (lv_sub hl [1, 2, 3, 0] rfl) hf
    · refine lv_aload_n cx.1 cx.2.1 dX7_extend_11 rfl (lv_at hl 0 rfl) ?_
      refine z_cv cx hp (fun o' hx => zrunV (n := (2 + 4 * (D + 1))) (As := []) (rest := []) cx hp (mX7_meet F l g B h a0 ra0 o' hx) 7 ra0 (by decide) rfl vw_X7_meet ml_X7_92 (by omega) rfl hl.1 rfl (Nat.le_of_ble_eq_true rfl) dX7_extend_12) hf (fun _ h H locs hp hf => ?_)
      rw [hQ]; exact z_vret cx hp dX7_extend_15 hf
theorem dX9_combine_0 : decode cX9_combine 0 = .ok (.iload_n 2, 1) := by decide +kernel
theorem dX9_combine_1 : decode cX9_combine 1 = .ok (.bipush 7, 2) := by decide +kernel
theorem dX9_combine_3 : decode cX9_combine 3 = .ok (.imul, 1) := by decide +kernel
theorem dX9_combine_4 : decode cX9_combine 4 = .ok (.istore 4, 2) := by decide +kernel
theorem dX9_combine_6 : decode cX9_combine 6 = .ok (.iload_n 3, 1) := by decide +kernel
theorem dX9_combine_7 : decode cX9_combine 7 = .ok (.bipush 7, 2) := by decide +kernel
theorem dX9_combine_9 : decode cX9_combine 9 = .ok (.imul, 1) := by decide +kernel
theorem dX9_combine_10 : decode cX9_combine 10 = .ok (.istore 5, 2) := by decide +kernel
theorem dX9_combine_12 : decode cX9_combine 12 = .ok (.iconst 0, 1) := by decide +kernel
theorem dX9_combine_13 : decode cX9_combine 13 = .ok (.istore 6, 2) := by decide +kernel
theorem dX9_combine_15 : decode cX9_combine 15 = .ok (.iload 6, 2) := by decide +kernel
theorem dX9_combine_17 : decode cX9_combine 17 = .ok (.aload_n 0, 1) := by decide +kernel
theorem dX9_combine_18 : decode cX9_combine 18 = .ok (.getfield 21, 3) := by decide +kernel
theorem dX9_combine_21 : decode cX9_combine 21 = .ok (.getfield 33, 3) := by decide +kernel
theorem dX9_combine_24 : decode cX9_combine 24 = .ok (.if_icmp .ge 44, 3) := by decide +kernel
theorem dX9_combine_27 : decode cX9_combine 27 = .ok (.aload_n 0, 1) := by decide +kernel
theorem dX9_combine_28 : decode cX9_combine 28 = .ok (.getfield 18, 3) := by decide +kernel
theorem dX9_combine_31 : decode cX9_combine 31 = .ok (.iload 6, 2) := by decide +kernel
theorem dX9_combine_33 : decode cX9_combine 33 = .ok (.aload_n 0, 1) := by decide +kernel
theorem dX9_combine_34 : decode cX9_combine 34 = .ok (.getfield 21, 3) := by decide +kernel
theorem dX9_combine_37 : decode cX9_combine 37 = .ok (.iload_n 1, 1) := by decide +kernel
theorem dX9_combine_38 : decode cX9_combine 38 = .ok (.aload_n 0, 1) := by decide +kernel
theorem dX9_combine_39 : decode cX9_combine 39 = .ok (.getfield 15, 3) := by decide +kernel
theorem dX9_combine_42 : decode cX9_combine 42 = .ok (.iload 4, 2) := by decide +kernel
theorem dX9_combine_44 : decode cX9_combine 44 = .ok (.iload 6, 2) := by decide +kernel
theorem dX9_combine_46 : decode cX9_combine 46 = .ok (.iadd, 1) := by decide +kernel
theorem dX9_combine_47 : decode cX9_combine 47 = .ok (.iaload, 1) := by decide +kernel
theorem dX9_combine_48 : decode cX9_combine 48 = .ok (.aload_n 0, 1) := by decide +kernel
theorem dX9_combine_49 : decode cX9_combine 49 = .ok (.getfield 15, 3) := by decide +kernel
theorem dX9_combine_52 : decode cX9_combine 52 = .ok (.iload 5, 2) := by decide +kernel
theorem dX9_combine_54 : decode cX9_combine 54 = .ok (.iload 6, 2) := by decide +kernel
theorem dX9_combine_56 : decode cX9_combine 56 = .ok (.iadd, 1) := by decide +kernel
theorem dX9_combine_57 : decode cX9_combine 57 = .ok (.iaload, 1) := by decide +kernel
theorem dX9_combine_58 : decode cX9_combine 58 = .ok (.invokevirtual 55, 3) := by decide +kernel
theorem dX9_combine_61 : decode cX9_combine 61 = .ok (.iastore, 1) := by decide +kernel
theorem dX9_combine_62 : decode cX9_combine 62 = .ok (.iinc 6 1, 3) := by decide +kernel
theorem dX9_combine_65 : decode cX9_combine 65 = .ok (.goto (-50), 3) := by decide +kernel
theorem dX9_combine_68 : decode cX9_combine 68 = .ok (.aload_n 0, 1) := by decide +kernel
theorem dX9_combine_69 : decode cX9_combine 69 = .ok (.invokevirtual 38, 3) := by decide +kernel
theorem dX9_combine_72 : decode cX9_combine 72 = .ok (.return_, 1) := by decide +kernel
def LX9_combine_15 (F : Nat) (u0 : Nat) (u1 : Int) (u4 : Int) (u5 : Int) (k68 : HF → RO) : Nat → Int → HF → RO
  | 0, _, _ => none
  | n + 1, v6, h =>
    zgd h u0 5 fun x4 =>
    zgf h x4 0 fun x5 =>
    if v6 < x5 then (
      zgd h u0 5 fun x6 =>
      zrd h (u0 + 2) (wr (u4 + v6)) fun x7 =>
      zrd h (u0 + 2) (wr (u5 + v6)) fun x8 =>
      zbd (fX0_value F x6 u1 x7 x8 h) fun r9 h =>
      zwr h (u0 + 3) v6 r9 fun h =>
      zlet (wr (v6 + 1)) fun x10 =>
      LX9_combine_15 F u0 u1 u4 u5 k68 n x10 h
    ) else (
      k68  h
    )
set_option maxHeartbeats 4000000 in
set_option maxRecDepth 100000 in
theorem wX9_combine_15 {p : Program} {l : Launch} {e : Env} {s : State} {m : MethodId} {args : Array Value} {below : List Frame} {meth : Method} {c : Code} {Q : State → Prop} {g : zG} {B : Nat} {o : Int × HF} (F : Nat) (cx : Cx p s m args meth c cX9_combine 7 RX9 none g B) (u0 : Nat) (ru0 : kt u0 = 12) (u1 : Int) (ru1 : rng u1) (u4 : Int) (ru4 : rng u4) (u5 : Int) (ru5 : rng u5) (k68 : HF → RO) (hk68 : ∀  (h : HF) (H : Heap) (locs : List Loc) (ls : Array Slot), Hp g B s h H locs → lv_has ls 7 [(0, .ref (B + u0))] → k68  h = some o → W p l e (rmn 2) s m args below meth c H locs 0 0 Q (F0 m 68 ls [])) : ∀ (n : Nat) (v6 : Int) (h : HF) (H : Heap) (locs : List Loc) (ls : Array Slot), rng v6 → Hp g B s h H locs → lv_has ls 7 [(0, .ref (B + u0)), (1, .int (ii u1)), (4, .int (ii u4)), (5, .int (ii u5)), (6, .int (ii v6))] → LX9_combine_15 F u0 u1 u4 u5 k68 n v6 h = some o → W p l e (rmn 2) s m args below meth c H locs 0 0 Q (F0 m 15 ls []) := by
  intro n
  induction n with
  | zero =>
    intro v6 h H locs ls rv6 hp hl hf
    cases hf
  | succ n ih =>
    intro v6 h H locs ls rv6 hp hl hf
    rw [LX9_combine_15] at hf
    refine lv_iload cx.1 cx.2.1 dX9_combine_15 (lv_at hl 4 rfl) ?_
    refine lv_aload_n cx.1 cx.2.1 dX9_combine_17 rfl (lv_at hl 0 rfl) ?_
    refine z_getd cx hp (T := TX9) 9 5 3 rfl zin_9 (by decide) (by decide) ru0 rfl fl_X9_21 dX9_combine_18 hf (fun x4 rx4 hf => ?_)
    refine z_geti cx hp (T := TX0) 0 0 rfl zin_0 (by decide) (by decide) rx4 rfl fl_X9_33 dX9_combine_21 hf (fun x5 rx5 hf => ?_)
    refine z_icmp_ge cx rv6 rx5 (tgt := 68) dX9_combine_24 (by decide) hf (fun _ hf => ?_) (fun _ hf => ?_)
    · refine lv_aload_n cx.1 cx.2.1 dX9_combine_27 rfl (lv_at hl 0 rfl) ?_
      refine z_gets cx hp (T := TX9) 9 4 (u0 + 3) rfl zin_9 (by decide) (by decide) ru0 rfl fl_X9_18 dX9_combine_28 ?_
      refine lv_iload cx.1 cx.2.1 dX9_combine_31 (lv_at hl 4 rfl) ?_
      refine lv_aload_n cx.1 cx.2.1 dX9_combine_33 rfl (lv_at hl 0 rfl) ?_
      refine z_getd cx hp (T := TX9) 9 5 3 rfl zin_9 (by decide) (by decide) ru0 rfl fl_X9_21 dX9_combine_34 hf (fun x6 rx6 hf => ?_)
      refine lv_iload_n cx.1 cx.2.1 dX9_combine_37 rfl (lv_at hl 1 rfl) ?_
      refine lv_aload_n cx.1 cx.2.1 dX9_combine_38 rfl (lv_at hl 0 rfl) ?_
      refine z_gets cx hp (T := TX9) 9 3 (u0 + 2) rfl zin_9 (by decide) (by decide) ru0 rfl fl_X9_15 dX9_combine_39 ?_
      refine lv_iload cx.1 cx.2.1 dX9_combine_42 (lv_at hl 2 rfl) ?_
      refine lv_iload cx.1 cx.2.1 dX9_combine_44 (lv_at hl 4 rfl) ?_
      refine z_iadd cx dX9_combine_46 ?_
      refine z_iald cx hp (zs_9_3 u0 (kt_lt ru0 (by decide)) ru0) (rng_wr _) dX9_combine_47 hf (fun x7 rx7 hf => ?_)
      refine lv_aload_n cx.1 cx.2.1 dX9_combine_48 rfl (lv_at hl 0 rfl) ?_
      refine z_gets cx hp (T := TX9) 9 3 (u0 + 2) rfl zin_9 (by decide) (by decide) ru0 rfl fl_X9_15 dX9_combine_49 ?_
      refine lv_iload cx.1 cx.2.1 dX9_combine_52 (lv_at hl 3 rfl) ?_
      refine lv_iload cx.1 cx.2.1 dX9_combine_54 (lv_at hl 4 rfl) ?_
      refine z_iadd cx dX9_combine_56 ?_
      refine z_iald cx hp (zs_9_3 u0 (kt_lt ru0 (by decide)) ru0) (rng_wr _) dX9_combine_57 hf (fun x8 rx8 hf => ?_)
      refine z_ci cx hp (fun o' hx => zrunV (n := 2) (As := [.int (ii u1), .int (ii x7), .int (ii x8)]) (rest := [.int (ii v6), .ref (B + (u0 + 3))]) cx hp (mX0_value F l g B h x6 u1 x7 x8 rx6 ru1 rx7 rx8 o' hx) 0 rx6 (by decide) rfl vw_X0_value ml_X9_55 (by decide) rfl hl.1 rfl (Nat.le_of_ble_eq_true rfl) dX9_combine_58) hf (fun r9 h H locs rr9 hp hf => ?_)
      refine z_iast cx hp (zs_9_4 u0 (kt_lt ru0 (by decide)) ru0) rv6 rr9 dX9_combine_61 hf (fun h H locs hp hf => ?_)
      refine z_iinc cx (fun x10 => [(6, .int (ii x10)), (0, .ref (B + u0)), (1, .int (ii u1)), (4, .int (ii u4)), (5, .int (ii u5))]) dX9_combine_62 hl (k := 4) rfl (by decide) (fun _ => rfl) hf (fun x10 rx10 hf ls hl => ?_)
      refine lv_goto (tgt := 15) cx.1 cx.2.1 dX9_combine_65 (by decide) ?_
      exact ih x10 h _ _ ls rx10 hp (lv_sub hl [1, 2, 3, 4, 0] rfl) hf
    · exact hk68  h _ _ ls  hp (lv_sub hl [0] rfl) hf
def fX9_combine (F : Nat) (a0 : Nat) (a1 : Int) (a2 : Int) (a3 : Int) (h : HF) : RO :=
  zlet (wr (a2 * 7)) fun x1 =>
  zlet (wr (a3 * 7)) fun x2 =>
  zjn (fun  (h : HF) => (
    zbd (fX9_addLine F a0 h) fun _ h =>
    some (0, h)
  )) fun j68 =>
  LX9_combine_15 F a0 a1 x1 x2 j68 F 0 h
set_option maxHeartbeats 4000000 in
set_option maxRecDepth 100000 in
theorem mX9_combine (F : Nat) (l : Launch) (g : zG) (B : Nat) (h : HF) (a0 : Nat) (a1 : Int) (a2 : Int) (a3 : Int) (ra0 : kt a0 = 12) (ra1 : rng a1) (ra2 : rng a2) (ra3 : rng a3) : CTv l g B yX9_combine cX9_combine 7 2 [.ref (B + a0), .int (ii a1), .int (ii a2), .int (ii a3)] h (fX9_combine F a0 a1 a2 a3 h) := by
  refine z_enterV (by decide) rfl (Nat.le_of_ble_eq_true rfl) ?_
  intro p e s m args below meth c ls o Q cx hp hl hf hQ
  have hl : lv_has ls 7 [(0, .ref (B + a0)), (1, .int (ii a1)), (2, .int (ii a2)), (3, .int (ii a3))] := hl
  unfold fX9_combine at hf
  refine lv_iload_n cx.1 cx.2.1 dX9_combine_0 rfl (lv_at hl 2 rfl) ?_
  refine z_bipush cx (by decide) dX9_combine_1 ?_
  refine z_imul cx dX9_combine_3 ?_
  refine z_let (rng_wr _) hf (fun x1 rx1 hf => ?_)
  refine lv_istore (lv' := [(4, .int (ii x1)), (0, .ref (B + a0)), (1, .int (ii a1)), (2, .int (ii a2)), (3, .int (ii a3))]) cx.1 cx.2.1 dX9_combine_4 hl (by decide) rfl (fun ls hl => ?_)
  refine lv_iload_n cx.1 cx.2.1 dX9_combine_6 rfl (lv_at hl 4 rfl) ?_
  refine z_bipush cx (by decide) dX9_combine_7 ?_
  refine z_imul cx dX9_combine_9 ?_
  refine z_let (rng_wr _) hf (fun x2 rx2 hf => ?_)
  refine lv_istore (lv' := [(5, .int (ii x2)), (4, .int (ii x1)), (0, .ref (B + a0)), (1, .int (ii a1)), (2, .int (ii a2)), (3, .int (ii a3))]) cx.1 cx.2.1 dX9_combine_10 hl (by decide) rfl (fun ls hl => ?_)
  refine z_iconst cx dX9_combine_12 ?_
  refine lv_istore (lv' := [(6, .int (ii 0)), (5, .int (ii x2)), (4, .int (ii x1)), (0, .ref (B + a0)), (1, .int (ii a1)), (2, .int (ii a2)), (3, .int (ii a3))]) cx.1 cx.2.1 dX9_combine_13 hl (by decide) rfl (fun ls hl => ?_)
  refine z_jn hf (fun j => ∀  (h : HF) (H : Heap) (locs : List Loc) (ls : Array Slot), Hp g B s h H locs → lv_has ls 7 [(0, .ref (B + a0))] → j  h = some o → W p l e (rmn 2) s m args below meth c H locs 0 0 Q (F0 m 68 ls [])) ?_ (fun j68 hj68 hf => ?_)
  · intro  h H locs ls  hp hl hf
    refine lv_aload_n cx.1 cx.2.1 dX9_combine_68 rfl (lv_at hl 0 rfl) ?_
    refine z_cv cx hp (fun o' hx => zrunV (n := 2) (As := []) (rest := []) cx hp (mX9_addLine F l g B h a0 ra0 o' hx) 9 ra0 (by decide) rfl vw_X9_addLine ml_X9_38 (by decide) rfl hl.1 rfl (Nat.le_of_ble_eq_true rfl) dX9_combine_69) hf (fun _ h H locs hp hf => ?_)
    rw [hQ]; exact z_vret cx hp dX9_combine_72 hf
  exact wX9_combine_15 F cx a0 ra0 a1 ra1 x1 rx1 x2 rx2 j68 hj68 F 0 h _ _ ls (by decide) hp (lv_sub hl [3, 4, 2, 1, 0] rfl) hf
theorem dX10_readTables_0 : decode cX10_readTables 0 = .ok (.aload_n 0, 1) := by decide +kernel
theorem dX10_readTables_1 : decode cX10_readTables 1 = .ok (.getfield 24, 3) := by decide +kernel
theorem dX10_readTables_4 : decode cX10_readTables 4 = .ok (.iconst 0, 1) := by decide +kernel
theorem dX10_readTables_5 : decode cX10_readTables 5 = .ok (.invokevirtual 51, 3) := by decide +kernel
theorem dX10_readTables_8 : decode cX10_readTables 8 = .ok (.bipush 48, 2) := by decide +kernel
theorem dX10_readTables_10 : decode cX10_readTables 10 = .ok (.isub, 1) := by decide +kernel
theorem dX10_readTables_11 : decode cX10_readTables 11 = .ok (.istore_n 2, 1) := by decide +kernel
theorem dX10_readTables_12 : decode cX10_readTables 12 = .ok (.iload_n 2, 1) := by decide +kernel
theorem dX10_readTables_13 : decode cX10_readTables 13 = .ok (.iconst 1, 1) := by decide +kernel
theorem dX10_readTables_14 : decode cX10_readTables 14 = .ok (.if_icmp .lt 9, 3) := by decide +kernel
theorem dX10_readTables_17 : decode cX10_readTables 17 = .ok (.iload_n 2, 1) := by decide +kernel
theorem dX10_readTables_18 : decode cX10_readTables 18 = .ok (.bipush 7, 2) := by decide +kernel
theorem dX10_readTables_20 : decode cX10_readTables 20 = .ok (.if_icmp .le 11, 3) := by decide +kernel
theorem dX10_readTables_31 : decode cX10_readTables 31 = .ok (.aload_n 1, 1) := by decide +kernel
theorem dX10_readTables_32 : decode cX10_readTables 32 = .ok (.iload_n 2, 1) := by decide +kernel
theorem dX10_readTables_33 : decode cX10_readTables 33 = .ok (.invokevirtual 59, 3) := by decide +kernel
theorem dX10_readTables_36 : decode cX10_readTables 36 = .ok (.aload_n 0, 1) := by decide +kernel
theorem dX10_readTables_37 : decode cX10_readTables 37 = .ok (.iconst 1, 1) := by decide +kernel
theorem dX10_readTables_38 : decode cX10_readTables 38 = .ok (.putfield 28, 3) := by decide +kernel
theorem dX10_readTables_41 : decode cX10_readTables 41 = .ok (.iconst 1, 1) := by decide +kernel
theorem dX10_readTables_42 : decode cX10_readTables 42 = .ok (.istore_n 3, 1) := by decide +kernel
theorem dX10_readTables_43 : decode cX10_readTables 43 = .ok (.iconst 0, 1) := by decide +kernel
theorem dX10_readTables_44 : decode cX10_readTables 44 = .ok (.istore 4, 2) := by decide +kernel
theorem dX10_readTables_46 : decode cX10_readTables 46 = .ok (.iload 4, 2) := by decide +kernel
theorem dX10_readTables_48 : decode cX10_readTables 48 = .ok (.iconst 4, 1) := by decide +kernel
theorem dX10_readTables_49 : decode cX10_readTables 49 = .ok (.if_icmp .gt 33, 3) := by decide +kernel
theorem dX10_readTables_52 : decode cX10_readTables 52 = .ok (.iload_n 3, 1) := by decide +kernel
theorem dX10_readTables_53 : decode cX10_readTables 53 = .ok (.ifCond .eq 29, 3) := by decide +kernel
theorem dX10_readTables_56 : decode cX10_readTables 56 = .ok (.aload_n 0, 1) := by decide +kernel
theorem dX10_readTables_57 : decode cX10_readTables 57 = .ok (.getfield 28, 3) := by decide +kernel
theorem dX10_readTables_60 : decode cX10_readTables 60 = .ok (.aload_n 0, 1) := by decide +kernel
theorem dX10_readTables_61 : decode cX10_readTables 61 = .ok (.getfield 24, 3) := by decide +kernel
theorem dX10_readTables_64 : decode cX10_readTables 64 = .ok (.getfield 38, 3) := by decide +kernel
theorem dX10_readTables_67 : decode cX10_readTables 67 = .ok (.if_icmp .ge 15, 3) := by decide +kernel
theorem dX10_readTables_70 : decode cX10_readTables 70 = .ok (.aload_n 0, 1) := by decide +kernel
theorem dX10_readTables_71 : decode cX10_readTables 71 = .ok (.aload_n 1, 1) := by decide +kernel
theorem dX10_readTables_72 : decode cX10_readTables 72 = .ok (.invokevirtual 64, 3) := by decide +kernel
theorem dX10_readTables_75 : decode cX10_readTables 75 = .ok (.istore_n 3, 1) := by decide +kernel
theorem dX10_readTables_76 : decode cX10_readTables 76 = .ok (.iinc 4 1, 3) := by decide +kernel
theorem dX10_readTables_79 : decode cX10_readTables 79 = .ok (.goto (-33), 3) := by decide +kernel
theorem dX10_readTables_82 : decode cX10_readTables 82 = .ok (.return_, 1) := by decide +kernel
theorem dX10_readTables_23 : decode cX10_readTables 23 = .ok (.aload_n 0, 1) := by decide +kernel
theorem dX10_readTables_24 : decode cX10_readTables 24 = .ok (.iconst 0, 1) := by decide +kernel
theorem dX10_readTables_25 : decode cX10_readTables 25 = .ok (.iconst 1, 1) := by decide +kernel
theorem dX10_readTables_26 : decode cX10_readTables 26 = .ok (.invokevirtual 55, 3) := by decide +kernel
theorem dX10_readTables_29 : decode cX10_readTables 29 = .ok (.pop, 1) := by decide +kernel
theorem dX10_readTables_30 : decode cX10_readTables 30 = .ok (.return_, 1) := by decide +kernel
def LX10_readTables_46 (F : Nat) (u0 : Nat) (u1 : Nat) (k82 : HF → RO) : Nat → Int → Int → HF → RO
  | 0, _, _, _ => none
  | n + 1, v3, v4, h =>
    if 4 < v4 then (
      k82  h
    ) else (
      if v3 = 0 then (
        k82  h
      ) else (
        zgf h u0 3 fun x6 =>
        zgd h u0 2 fun x7 =>
        zgf h x7 1 fun x8 =>
        if x6 < x8 then (
          zbd (fX10_readOperation F u0 u1 h) fun r9 h =>
          zlet (wr (v4 + 1)) fun x10 =>
          LX10_readTables_46 F u0 u1 k82 n r9 x10 h
        ) else (
          k82  h
        )
      )
    )
set_option maxHeartbeats 4000000 in
set_option maxRecDepth 100000 in
theorem wX10_readTables_46 {p : Program} {l : Launch} {e : Env} {s : State} {m : MethodId} {args : Array Value} {below : List Frame} {meth : Method} {c : Code} {Q : State → Prop} {g : zG} {B : Nat} {o : Int × HF} (F : Nat) (cx : Cx p s m args meth c cX10_readTables 5 RX10 none g B) (u0 : Nat) (ru0 : kt u0 = 13) (u1 : Nat) (ru1 : kt u1 = 3) (k82 : HF → RO) (hk82 : ∀  (h : HF) (H : Heap) (locs : List Loc) (ls : Array Slot), Hp g B s h H locs → lv_has ls 5 [] → k82  h = some o → W p l e (rmn 4) s m args below meth c H locs 0 0 Q (F0 m 82 ls [])) : ∀ (n : Nat) (v3 : Int) (v4 : Int) (h : HF) (H : Heap) (locs : List Loc) (ls : Array Slot), rng v3 → rng v4 → Hp g B s h H locs → lv_has ls 5 [(0, .ref (B + u0)), (1, .ref (B + u1)), (3, .int (ii v3)), (4, .int (ii v4))] → LX10_readTables_46 F u0 u1 k82 n v3 v4 h = some o → W p l e (rmn 4) s m args below meth c H locs 0 0 Q (F0 m 46 ls []) := by
  intro n
  induction n with
  | zero =>
    intro v3 v4 h H locs ls rv3 rv4 hp hl hf
    cases hf
  | succ n ih =>
    intro v3 v4 h H locs ls rv3 rv4 hp hl hf
    rw [LX10_readTables_46] at hf
    refine lv_iload cx.1 cx.2.1 dX10_readTables_46 (lv_at hl 3 rfl) ?_
    refine z_iconst cx dX10_readTables_48 ?_
    refine z_icmp_gt cx rv4 (by decide) (tgt := 82) dX10_readTables_49 (by decide) hf (fun _ hf => ?_) (fun _ hf => ?_)
    · exact hk82  h _ _ ls  hp (lv_sub hl [] rfl) hf
    · refine lv_iload_n cx.1 cx.2.1 dX10_readTables_52 rfl (lv_at hl 2 rfl) ?_
      refine z_if_eq cx rv3 (tgt := 82) dX10_readTables_53 (by decide) hf (fun _ hf => ?_) (fun _ hf => ?_)
      · exact hk82  h _ _ ls  hp (lv_sub hl [] rfl) hf
      · refine lv_aload_n cx.1 cx.2.1 dX10_readTables_56 rfl (lv_at hl 0 rfl) ?_
        refine z_geti cx hp (T := TX10) 10 3 rfl zin_10 (by decide) (by decide) ru0 rfl fl_X10_28 dX10_readTables_57 hf (fun x6 rx6 hf => ?_)
        refine lv_aload_n cx.1 cx.2.1 dX10_readTables_60 rfl (lv_at hl 0 rfl) ?_
        refine z_getd cx hp (T := TX10) 10 2 4 rfl zin_10 (by decide) (by decide) ru0 rfl fl_X10_24 dX10_readTables_61 hf (fun x7 rx7 hf => ?_)
        refine z_geti cx hp (T := TX1) 1 1 rfl zin_1 (by decide) (by decide) rx7 rfl fl_X10_38 dX10_readTables_64 hf (fun x8 rx8 hf => ?_)
        refine z_icmp_ge cx rx6 rx8 (tgt := 82) dX10_readTables_67 (by decide) hf (fun _ hf => ?_) (fun _ hf => ?_)
        · refine lv_aload_n cx.1 cx.2.1 dX10_readTables_70 rfl (lv_at hl 0 rfl) ?_
          refine lv_aload_n cx.1 cx.2.1 dX10_readTables_71 rfl (lv_at hl 1 rfl) ?_
          refine z_ci cx hp (fun o' hx => zrunV (n := 4) (As := [.ref (B + u1)]) (rest := []) cx hp (mX10_readOperation F l g B h u0 u1 ru0 ru1 o' hx) 10 ru0 (by decide) rfl vw_X10_readOperation ml_X10_64 (by decide) rfl hl.1 rfl (Nat.le_of_ble_eq_true rfl) dX10_readTables_72) hf (fun r9 h H locs rr9 hp hf => ?_)
          refine lv_istore_n (lv' := [(3, .int (ii r9)), (0, .ref (B + u0)), (1, .ref (B + u1)), (4, .int (ii v4))]) cx.1 cx.2.1 dX10_readTables_75 rfl hl (by decide) rfl (fun ls hl => ?_)
          refine z_iinc cx (fun x10 => [(4, .int (ii x10)), (3, .int (ii r9)), (0, .ref (B + u0)), (1, .ref (B + u1))]) dX10_readTables_76 hl (k := 3) rfl (by decide) (fun _ => rfl) hf (fun x10 rx10 hf ls hl => ?_)
          refine lv_goto (tgt := 46) cx.1 cx.2.1 dX10_readTables_79 (by decide) ?_
          exact ih r9 x10 h _ _ ls rr9 rx10 hp (lv_sub hl [2, 3, 1, 0] rfl) hf
        · exact hk82  h _ _ ls  hp (lv_sub hl [] rfl) hf
def fX10_readTables (F : Nat) (a0 : Nat) (a1 : Nat) (h : HF) : RO :=
  zgd h a0 2 fun x1 =>
  zbd (fX1_byteAt F x1 0 h) fun r2 h =>
  zlet (wr (r2 - 48)) fun x3 =>
  zjn (fun  (h : HF) => (
    zbd (fX10_failAt F a0 0 1 h) fun r4 h =>
    some (0, h)
  )) fun j23 =>
  if x3 < 1 then (
    j23  h
  ) else (
    if 7 < x3 then (
      j23  h
    ) else (
      zbd (fX0_begin F a1 x3 h) fun _ h =>
      zpf h a0 3 1 fun h =>
      zjn (fun  (h : HF) => (
        some (0, h)
      )) fun j82 =>
      LX10_readTables_46 F a0 a1 j82 F 1 0 h
    )
  )
set_option maxHeartbeats 4000000 in
set_option maxRecDepth 100000 in
theorem mX10_readTables (F : Nat) (l : Launch) (g : zG) (B : Nat) (h : HF) (a0 : Nat) (a1 : Nat) (ra0 : kt a0 = 13) (ra1 : kt a1 = 3) : CTv l g B yX10_readTables cX10_readTables 5 4 [.ref (B + a0), .ref (B + a1)] h (fX10_readTables F a0 a1 h) := by
  refine z_enterV (by decide) rfl (Nat.le_of_ble_eq_true rfl) ?_
  intro p e s m args below meth c ls o Q cx hp hl hf hQ
  have hl : lv_has ls 5 [(0, .ref (B + a0)), (1, .ref (B + a1))] := hl
  unfold fX10_readTables at hf
  refine lv_aload_n cx.1 cx.2.1 dX10_readTables_0 rfl (lv_at hl 0 rfl) ?_
  refine z_getd cx hp (T := TX10) 10 2 4 rfl zin_10 (by decide) (by decide) ra0 rfl fl_X10_24 dX10_readTables_1 hf (fun x1 rx1 hf => ?_)
  refine z_iconst cx dX10_readTables_4 ?_
  refine z_ci cx hp (fun o' hx => zrunV (n := 4) (As := [.int (ii 0)]) (rest := []) cx hp (mX1_byteAt F l g B h x1 0 rx1 (by decide) o' hx) 1 rx1 (by decide) rfl vw_X1_byteAt ml_X10_51 (by decide) rfl hl.1 rfl (Nat.le_of_ble_eq_true rfl) dX10_readTables_5) hf (fun r2 h H locs rr2 hp hf => ?_)
  refine z_bipush cx (by decide) dX10_readTables_8 ?_
  refine z_isub cx dX10_readTables_10 ?_
  refine z_let (rng_wr _) hf (fun x3 rx3 hf => ?_)
  refine lv_istore_n (lv' := [(2, .int (ii x3)), (0, .ref (B + a0)), (1, .ref (B + a1))]) cx.1 cx.2.1 dX10_readTables_11 rfl hl (by decide) rfl (fun ls hl => ?_)
  refine lv_iload_n cx.1 cx.2.1 dX10_readTables_12 rfl (lv_at hl 0 rfl) ?_
  refine z_iconst cx dX10_readTables_13 ?_
  refine z_jn hf (fun j => ∀  (h : HF) (H : Heap) (locs : List Loc) (ls : Array Slot), Hp g B s h H locs → lv_has ls 5 [(0, .ref (B + a0))] → j  h = some o → W p l e (rmn 4) s m args below meth c H locs 0 0 Q (F0 m 23 ls [])) ?_ (fun j23 hj23 hf => ?_)
  · intro  h H locs ls  hp hl hf
    refine lv_aload_n cx.1 cx.2.1 dX10_readTables_23 rfl (lv_at hl 0 rfl) ?_
    refine z_iconst cx dX10_readTables_24 ?_
    refine z_iconst cx dX10_readTables_25 ?_
    refine z_ci cx hp (fun o' hx => zrunV (n := 4) (As := [.int (ii 0), .int (ii 1)]) (rest := []) cx hp (mX10_failAt F l g B h a0 0 1 ra0 (by decide) (by decide) o' hx) 10 ra0 (by decide) rfl vw_X10_failAt ml_X10_55 (by decide) rfl hl.1 rfl (Nat.le_of_ble_eq_true rfl) dX10_readTables_26) hf (fun r4 h H locs rr4 hp hf => ?_)
    refine lv_pop cx.1 cx.2.1 dX10_readTables_29 rfl ?_
    rw [hQ]; exact z_vret cx hp dX10_readTables_30 hf
  refine z_icmp_lt cx rx3 (by decide) (tgt := 23) dX10_readTables_14 (by decide) hf (fun _ hf => ?_) (fun _ hf => ?_)
  · exact hj23  h _ _ ls  hp (lv_sub hl [1] rfl) hf
  · refine lv_iload_n cx.1 cx.2.1 dX10_readTables_17 rfl (lv_at hl 0 rfl) ?_
    refine z_bipush cx (by decide) dX10_readTables_18 ?_
    refine z_icmp_le cx rx3 (by decide) (tgt := 31) dX10_readTables_20 (by decide) hf (fun _ hf => ?_) (fun _ hf => ?_)
    · exact hj23  h _ _ ls  hp (lv_sub hl [1] rfl) hf
    · refine lv_aload_n cx.1 cx.2.1 dX10_readTables_31 rfl (lv_at hl 2 rfl) ?_
      refine lv_iload_n cx.1 cx.2.1 dX10_readTables_32 rfl (lv_at hl 0 rfl) ?_
      refine z_cv cx hp (fun o' hx => zrunV (n := 4) (As := [.int (ii x3)]) (rest := []) cx hp (mX0_begin F l g B h a1 x3 ra1 rx3 o' hx) 0 ra1 (by decide) rfl vw_X0_begin ml_X10_59 (by decide) rfl hl.1 rfl (Nat.le_of_ble_eq_true rfl) dX10_readTables_33) hf (fun _ h H locs hp hf => ?_)
      refine lv_aload_n cx.1 cx.2.1 dX10_readTables_36 rfl (lv_at hl 1 rfl) ?_
      refine z_iconst cx dX10_readTables_37 ?_
      refine z_puti cx hp (T := TX10) tyX10 tyX10_ok nmX10 10 3 (by decide) rfl zin_10 (by decide) (by decide) ra0 rfl rfl rfl fl_X10_28 dX10_readTables_38 hf (fun h H locs hp hf => ?_)
      refine z_iconst cx dX10_readTables_41 ?_
      refine lv_istore_n (lv' := [(3, .int (ii 1)), (2, .int (ii x3)), (0, .ref (B + a0)), (1, .ref (B + a1))]) cx.1 cx.2.1 dX10_readTables_42 rfl hl (by decide) rfl (fun ls hl => ?_)
      refine z_iconst cx dX10_readTables_43 ?_
      refine lv_istore (lv' := [(4, .int (ii 0)), (3, .int (ii 1)), (2, .int (ii x3)), (0, .ref (B + a0)), (1, .ref (B + a1))]) cx.1 cx.2.1 dX10_readTables_44 hl (by decide) rfl (fun ls hl => ?_)
      refine z_jn hf (fun j => ∀  (h : HF) (H : Heap) (locs : List Loc) (ls : Array Slot), Hp g B s h H locs → lv_has ls 5 [] → j  h = some o → W p l e (rmn 4) s m args below meth c H locs 0 0 Q (F0 m 82 ls [])) ?_ (fun j82 hj82 hf => ?_)
      · intro  h H locs ls  hp hl hf
        rw [hQ]; exact z_vret cx hp dX10_readTables_82 hf
      exact wX10_readTables_46 F cx a0 ra0 a1 ra1 j82 hj82 F 1 0 h _ _ ls (by decide) (by decide) hp (lv_sub hl [3, 4, 1, 0] rfl) hf
theorem dX10_readSame_0 : decode cX10_readSame 0 = .ok (.aload_n 0, 1) := by decide +kernel
theorem dX10_readSame_1 : decode cX10_readSame 1 = .ok (.iconst 0, 1) := by decide +kernel
theorem dX10_readSame_2 : decode cX10_readSame 2 = .ok (.invokevirtual 123, 3) := by decide +kernel
theorem dX10_readSame_5 : decode cX10_readSame 5 = .ok (.ifCond .ne 5, 3) := by decide +kernel
theorem dX10_readSame_8 : decode cX10_readSame 8 = .ok (.iconst 0, 1) := by decide +kernel
theorem dX10_readSame_9 : decode cX10_readSame 9 = .ok (.ireturn, 1) := by decide +kernel
theorem dX10_readSame_10 : decode cX10_readSame 10 = .ok (.aload_n 0, 1) := by decide +kernel
theorem dX10_readSame_11 : decode cX10_readSame 11 = .ok (.bipush 61, 2) := by decide +kernel
theorem dX10_readSame_13 : decode cX10_readSame 13 = .ok (.invokevirtual 107, 3) := by decide +kernel
theorem dX10_readSame_16 : decode cX10_readSame 16 = .ok (.ifCond .ne 9, 3) := by decide +kernel
theorem dX10_readSame_19 : decode cX10_readSame 19 = .ok (.aload_n 0, 1) := by decide +kernel
theorem dX10_readSame_20 : decode cX10_readSame 20 = .ok (.iconst 1, 1) := by decide +kernel
theorem dX10_readSame_21 : decode cX10_readSame 21 = .ok (.invokevirtual 111, 3) := by decide +kernel
theorem dX10_readSame_24 : decode cX10_readSame 24 = .ok (.ireturn, 1) := by decide +kernel
theorem dX10_readSame_25 : decode cX10_readSame 25 = .ok (.aload_n 0, 1) := by decide +kernel
theorem dX10_readSame_26 : decode cX10_readSame 26 = .ok (.getfield 94, 3) := by decide +kernel
theorem dX10_readSame_29 : decode cX10_readSame 29 = .ok (.getfield 126, 3) := by decide +kernel
theorem dX10_readSame_32 : decode cX10_readSame 32 = .ok (.istore_n 1, 1) := by decide +kernel
theorem dX10_readSame_33 : decode cX10_readSame 33 = .ok (.aload_n 0, 1) := by decide +kernel
theorem dX10_readSame_34 : decode cX10_readSame 34 = .ok (.iconst 0, 1) := by decide +kernel
theorem dX10_readSame_35 : decode cX10_readSame 35 = .ok (.invokevirtual 123, 3) := by decide +kernel
theorem dX10_readSame_38 : decode cX10_readSame 38 = .ok (.ifCond .ne 5, 3) := by decide +kernel
theorem dX10_readSame_41 : decode cX10_readSame 41 = .ok (.iconst 0, 1) := by decide +kernel
theorem dX10_readSame_42 : decode cX10_readSame 42 = .ok (.ireturn, 1) := by decide +kernel
theorem dX10_readSame_43 : decode cX10_readSame 43 = .ok (.aload_n 0, 1) := by decide +kernel
theorem dX10_readSame_44 : decode cX10_readSame 44 = .ok (.getfield 94, 3) := by decide +kernel
theorem dX10_readSame_47 : decode cX10_readSame 47 = .ok (.iload_n 1, 1) := by decide +kernel
theorem dX10_readSame_48 : decode cX10_readSame 48 = .ok (.invokevirtual 129, 3) := by decide +kernel
theorem dX10_readSame_51 : decode cX10_readSame 51 = .ok (.iconst 1, 1) := by decide +kernel
theorem dX10_readSame_52 : decode cX10_readSame 52 = .ok (.ireturn, 1) := by decide +kernel
def fX10_readSame (F : Nat) (a0 : Nat) (h : HF) : RO :=
  zbd (fX10_readTerm F 10 a0 0 h) fun r1 h =>
  if r1 = 0 then (
    zrz 0 h
  ) else (
    zbd (fX10_takes F a0 61 h) fun r2 h =>
    if r2 = 0 then (
      zbd (fX10_failHere F a0 1 h) fun r3 h =>
      zrz r3 h
    ) else (
      zgd h a0 4 fun x4 =>
      zgf h x4 2 fun x5 =>
      zbd (fX10_readTerm F 10 a0 0 h) fun r6 h =>
      if r6 = 0 then (
        zrz 0 h
      ) else (
        zgd h a0 4 fun x7 =>
        zbd (fX4_endSame F x7 x5 h) fun _ h =>
        zrz 1 h
      )
    )
  )
set_option maxHeartbeats 4000000 in
set_option maxRecDepth 100000 in
theorem mX10_readSame (F : Nat) (l : Launch) (g : zG) (B : Nat) (h : HF) (a0 : Nat) (ra0 : kt a0 = 13) : CTi l g B yX10_readSame cX10_readSame 2 (some .boolean) 33 [.ref (B + a0)] h (fX10_readSame F a0 h) := by
  refine z_enterI (by decide) rfl (Nat.le_of_ble_eq_true rfl) ?_
  intro p e s m args below meth c ls o Q cx hp hl hf hQ
  have hl : lv_has ls 2 [(0, .ref (B + a0))] := hl
  unfold fX10_readSame at hf
  refine lv_aload_n cx.1 cx.2.1 dX10_readSame_0 rfl (lv_at hl 0 rfl) ?_
  refine z_iconst cx dX10_readSame_1 ?_
  refine z_ci cx hp (fun o' hx => zrunV (n := 33) (As := [.int (ii 0)]) (rest := []) cx hp (mX10_readTerm F l g B 10 h a0 0 ra0 (by decide) o' hx) 10 ra0 (by decide) rfl vw_X10_readTerm ml_X10_123 (by decide) rfl hl.1 rfl (Nat.le_of_ble_eq_true rfl) dX10_readSame_2) hf (fun r1 h H locs rr1 hp hf => ?_)
  refine z_if_ne cx rr1 (tgt := 10) dX10_readSame_5 (by decide) hf (fun _ hf => ?_) (fun _ hf => ?_)
  · refine z_iconst cx dX10_readSame_8 ?_
    rw [hQ]; exact z_zret cx hp dX10_readSame_9 hf
  · refine lv_aload_n cx.1 cx.2.1 dX10_readSame_10 rfl (lv_at hl 0 rfl) ?_
    refine z_bipush cx (by decide) dX10_readSame_11 ?_
    refine z_ci cx hp (fun o' hx => zrunV (n := 33) (As := [.int (ii 61)]) (rest := []) cx hp (mX10_takes F l g B h a0 61 ra0 (by decide) o' hx) 10 ra0 (by decide) rfl vw_X10_takes ml_X10_107 (by decide) rfl hl.1 rfl (Nat.le_of_ble_eq_true rfl) dX10_readSame_13) hf (fun r2 h H locs rr2 hp hf => ?_)
    refine z_if_ne cx rr2 (tgt := 25) dX10_readSame_16 (by decide) hf (fun _ hf => ?_) (fun _ hf => ?_)
    · refine lv_aload_n cx.1 cx.2.1 dX10_readSame_19 rfl (lv_at hl 0 rfl) ?_
      refine z_iconst cx dX10_readSame_20 ?_
      refine z_ci cx hp (fun o' hx => zrunV (n := 33) (As := [.int (ii 1)]) (rest := []) cx hp (mX10_failHere F l g B h a0 1 ra0 (by decide) o' hx) 10 ra0 (by decide) rfl vw_X10_failHere ml_X10_111 (by decide) rfl hl.1 rfl (Nat.le_of_ble_eq_true rfl) dX10_readSame_21) hf (fun r3 h H locs rr3 hp hf => ?_)
      rw [hQ]; exact z_zret cx hp dX10_readSame_24 hf
    · refine lv_aload_n cx.1 cx.2.1 dX10_readSame_25 rfl (lv_at hl 0 rfl) ?_
      refine z_getd cx hp (T := TX10) 10 4 7 rfl zin_10 (by decide) (by decide) ra0 rfl fl_X10_94 dX10_readSame_26 hf (fun x4 rx4 hf => ?_)
      refine z_geti cx hp (T := TX4) 4 2 rfl zin_4 (by decide) (by decide) rx4 rfl fl_X10_126 dX10_readSame_29 hf (fun x5 rx5 hf => ?_)
      refine lv_istore_n (lv' := [(1, .int (ii x5)), (0, .ref (B + a0))]) cx.1 cx.2.1 dX10_readSame_32 rfl hl (by decide) rfl (fun ls hl => ?_)
      refine lv_aload_n cx.1 cx.2.1 dX10_readSame_33 rfl (lv_at hl 1 rfl) ?_
      refine z_iconst cx dX10_readSame_34 ?_
      refine z_ci cx hp (fun o' hx => zrunV (n := 33) (As := [.int (ii 0)]) (rest := []) cx hp (mX10_readTerm F l g B 10 h a0 0 ra0 (by decide) o' hx) 10 ra0 (by decide) rfl vw_X10_readTerm ml_X10_123 (by decide) rfl hl.1 rfl (Nat.le_of_ble_eq_true rfl) dX10_readSame_35) hf (fun r6 h H locs rr6 hp hf => ?_)
      refine z_if_ne cx rr6 (tgt := 43) dX10_readSame_38 (by decide) hf (fun _ hf => ?_) (fun _ hf => ?_)
      · refine z_iconst cx dX10_readSame_41 ?_
        rw [hQ]; exact z_zret cx hp dX10_readSame_42 hf
      · refine lv_aload_n cx.1 cx.2.1 dX10_readSame_43 rfl (lv_at hl 1 rfl) ?_
        refine z_getd cx hp (T := TX10) 10 4 7 rfl zin_10 (by decide) (by decide) ra0 rfl fl_X10_94 dX10_readSame_44 hf (fun x7 rx7 hf => ?_)
        refine lv_iload_n cx.1 cx.2.1 dX10_readSame_47 rfl (lv_at hl 0 rfl) ?_
        refine z_cv cx hp (fun o' hx => zrunV (n := 33) (As := [.int (ii x5)]) (rest := []) cx hp (mX4_endSame F l g B h x7 x5 rx7 rx5 o' hx) 4 rx7 (by decide) rfl vw_X4_endSame ml_X10_129 (by decide) rfl hl.1 rfl (Nat.le_of_ble_eq_true rfl) dX10_readSame_48) hf (fun _ h H locs hp hf => ?_)
        refine z_iconst cx dX10_readSame_51 ?_
        rw [hQ]; exact z_zret cx hp dX10_readSame_52 hf
theorem dX11_make_0 : decode cX11_make 0 = .ok (.iload_n 1, 1) := by decide +kernel
theorem dX11_make_1 : decode cX11_make 1 = .ok (.invokestatic 123, 3) := by decide +kernel
theorem dX11_make_4 : decode cX11_make 4 = .ok (.ifCond .eq 11, 3) := by decide +kernel
theorem dX11_make_7 : decode cX11_make 7 = .ok (.iload_n 2, 1) := by decide +kernel
theorem dX11_make_8 : decode cX11_make 8 = .ok (.iload_n 3, 1) := by decide +kernel
theorem dX11_make_9 : decode cX11_make 9 = .ok (.invokestatic 126, 3) := by decide +kernel
theorem dX11_make_12 : decode cX11_make 12 = .ok (.ifCond .ne 6, 3) := by decide +kernel
theorem dX11_make_18 : decode cX11_make 18 = .ok (.aload_n 0, 1) := by decide +kernel
theorem dX11_make_19 : decode cX11_make 19 = .ok (.getfield 28, 3) := by decide +kernel
theorem dX11_make_22 : decode cX11_make 22 = .ok (.iload_n 2, 1) := by decide +kernel
theorem dX11_make_23 : decode cX11_make 23 = .ok (.iload_n 3, 1) := by decide +kernel
theorem dX11_make_24 : decode cX11_make 24 = .ok (.invokevirtual 130, 3) := by decide +kernel
theorem dX11_make_27 : decode cX11_make 27 = .ok (.aload_n 0, 1) := by decide +kernel
theorem dX11_make_28 : decode cX11_make 28 = .ok (.iload_n 1, 1) := by decide +kernel
theorem dX11_make_29 : decode cX11_make 29 = .ok (.invokevirtual 134, 3) := by decide +kernel
theorem dX11_make_32 : decode cX11_make 32 = .ok (.aload_n 0, 1) := by decide +kernel
theorem dX11_make_33 : decode cX11_make 33 = .ok (.getfield 28, 3) := by decide +kernel
theorem dX11_make_36 : decode cX11_make 36 = .ok (.invokevirtual 137, 3) := by decide +kernel
theorem dX11_make_39 : decode cX11_make 39 = .ok (.ireturn, 1) := by decide +kernel
theorem dX11_make_15 : decode cX11_make 15 = .ok (.bipush (-3), 2) := by decide +kernel
theorem dX11_make_17 : decode cX11_make 17 = .ok (.ireturn, 1) := by decide +kernel
def fX11_make (F : Nat) (a0 : Nat) (a1 : Int) (a2 : Int) (a3 : Int) (h : HF) : RO :=
  zbd (fX11_isDrawer F a1 h) fun r1 h =>
  zjn (fun  (h : HF) => (
    some ((-3), h)
  )) fun j15 =>
  if r1 = 0 then (
    j15  h
  ) else (
    zbd (fX11_isShape F a2 a3 h) fun r2 h =>
    if r2 = 0 then (
      j15  h
    ) else (
      zbd (fX0_shape F (a0 + 6) a2 a3 h) fun _ h =>
      zbd (fX11_putDraft F a0 a1 h) fun _ h =>
      zbd (fX0_cellCount F (a0 + 6) h) fun r5 h =>
      some (r5, h)
    )
  )
set_option maxHeartbeats 4000000 in
set_option maxRecDepth 100000 in
theorem mX11_make (F : Nat) (l : Launch) (g : zG) (B : Nat) (h : HF) (a0 : Nat) (a1 : Int) (a2 : Int) (a3 : Int) (ra0 : kt a0 = 14) (ra1 : rng a1) (ra2 : rng a2) (ra3 : rng a3) : CTi l g B yX11_make cX11_make 4 (some .int) 4 [.ref (B + a0), .int (ii a1), .int (ii a2), .int (ii a3)] h (fX11_make F a0 a1 a2 a3 h) := by
  refine z_enterI (by decide) rfl (Nat.le_of_ble_eq_true rfl) ?_
  intro p e s m args below meth c ls o Q cx hp hl hf hQ
  have hl : lv_has ls 4 [(0, .ref (B + a0)), (1, .int (ii a1)), (2, .int (ii a2)), (3, .int (ii a3))] := hl
  unfold fX11_make at hf
  refine lv_iload_n cx.1 cx.2.1 dX11_make_0 rfl (lv_at hl 1 rfl) ?_
  refine z_ci cx hp (fun o' hx => zrunS (n := 4) (As := [.int (ii a1)]) (rest := []) cx hp (mX11_isDrawer F l g B h a1 ra1 o' hx) sw_X11_isDrawer ml_X11_123 (by decide) rfl hl.1 rfl (Nat.le_of_ble_eq_true rfl) dX11_make_1) hf (fun r1 h H locs rr1 hp hf => ?_)
  refine z_jn hf (fun j => ∀  (h : HF) (H : Heap) (locs : List Loc) (ls : Array Slot), Hp g B s h H locs → lv_has ls 4 [] → j  h = some o → W p l e (rmn 4) s m args below meth c H locs 0 0 Q (F0 m 15 ls [])) ?_ (fun j15 hj15 hf => ?_)
  · intro  h H locs ls  hp hl hf
    refine z_bipush cx (by decide) dX11_make_15 ?_
    rw [hQ]; exact z_iret cx hp (by decide) dX11_make_17 hf
  refine z_if_eq cx rr1 (tgt := 15) dX11_make_4 (by decide) hf (fun _ hf => ?_) (fun _ hf => ?_)
  · exact hj15  h _ _ ls  hp (lv_sub hl [] rfl) hf
  · refine lv_iload_n cx.1 cx.2.1 dX11_make_7 rfl (lv_at hl 2 rfl) ?_
    refine lv_iload_n cx.1 cx.2.1 dX11_make_8 rfl (lv_at hl 3 rfl) ?_
    refine z_ci cx hp (fun o' hx => zrunS (n := 4) (As := [.int (ii a2), .int (ii a3)]) (rest := []) cx hp (mX11_isShape F l g B h a2 a3 ra2 ra3 o' hx) sw_X11_isShape ml_X11_126 (by decide) rfl hl.1 rfl (Nat.le_of_ble_eq_true rfl) dX11_make_9) hf (fun r2 h H locs rr2 hp hf => ?_)
    refine z_if_ne cx rr2 (tgt := 18) dX11_make_12 (by decide) hf (fun _ hf => ?_) (fun _ hf => ?_)
    · exact hj15  h _ _ ls  hp (lv_sub hl [] rfl) hf
    · refine lv_aload_n cx.1 cx.2.1 dX11_make_18 rfl (lv_at hl 0 rfl) ?_
      refine z_gets cx hp (T := TX11) 11 3 (a0 + 6) rfl zin_11 (by decide) (by decide) ra0 rfl fl_X11_28 dX11_make_19 ?_
      refine lv_iload_n cx.1 cx.2.1 dX11_make_22 rfl (lv_at hl 2 rfl) ?_
      refine lv_iload_n cx.1 cx.2.1 dX11_make_23 rfl (lv_at hl 3 rfl) ?_
      refine z_cv cx hp (fun o' hx => zrunV (n := 4) (As := [.int (ii a2), .int (ii a3)]) (rest := []) cx hp (mX0_shape F l g B h (a0 + 6) a2 a3 (zs_11_3 a0 (kt_lt ra0 (by decide)) ra0) ra2 ra3 o' hx) 0 (zs_11_3 a0 (kt_lt ra0 (by decide)) ra0) (by decide) rfl vw_X0_shape ml_X11_130 (by decide) rfl hl.1 rfl (Nat.le_of_ble_eq_true rfl) dX11_make_24) hf (fun _ h H locs hp hf => ?_)
      refine lv_aload_n cx.1 cx.2.1 dX11_make_27 rfl (lv_at hl 0 rfl) ?_
      refine lv_iload_n cx.1 cx.2.1 dX11_make_28 rfl (lv_at hl 1 rfl) ?_
      refine z_cv cx hp (fun o' hx => zrunV (n := 4) (As := [.int (ii a1)]) (rest := []) cx hp (mX11_putDraft F l g B h a0 a1 ra0 ra1 o' hx) 11 ra0 (by decide) rfl vw_X11_putDraft ml_X11_134 (by decide) rfl hl.1 rfl (Nat.le_of_ble_eq_true rfl) dX11_make_29) hf (fun _ h H locs hp hf => ?_)
      refine lv_aload_n cx.1 cx.2.1 dX11_make_32 rfl (lv_at hl 0 rfl) ?_
      refine z_gets cx hp (T := TX11) 11 3 (a0 + 6) rfl zin_11 (by decide) (by decide) ra0 rfl fl_X11_28 dX11_make_33 ?_
      refine z_ci cx hp (fun o' hx => zrunV (n := 4) (As := []) (rest := []) cx hp (mX0_cellCount F l g B h (a0 + 6) (zs_11_3 a0 (kt_lt ra0 (by decide)) ra0) o' hx) 0 (zs_11_3 a0 (kt_lt ra0 (by decide)) ra0) (by decide) rfl vw_X0_cellCount ml_X11_137 (by decide) rfl hl.1 rfl (Nat.le_of_ble_eq_true rfl) dX11_make_36) hf (fun r5 h H locs rr5 hp hf => ?_)
      rw [hQ]; exact z_iret cx hp rr5 dX11_make_39 hf
