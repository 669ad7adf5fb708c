theorem dX12_value_0 : decode cX12_value 0 = .ok (.aload_n 0, 1) := by decide +kernel
theorem dX12_value_1 : decode cX12_value 1 = .ok (.getfield 25, 3) := by decide +kernel
theorem dX12_value_4 : decode cX12_value 4 = .ok (.aload_n 0, 1) := by decide +kernel
theorem dX12_value_5 : decode cX12_value 5 = .ok (.iload_n 1, 1) := by decide +kernel
theorem dX12_value_6 : decode cX12_value 6 = .ok (.iload_n 2, 1) := by decide +kernel
theorem dX12_value_7 : decode cX12_value 7 = .ok (.iload_n 3, 1) := by decide +kernel
theorem dX12_value_8 : decode cX12_value 8 = .ok (.iload 4, 2) := by decide +kernel
theorem dX12_value_10 : decode cX12_value 10 = .ok (.invokevirtual 136, 3) := by decide +kernel
theorem dX12_value_13 : decode cX12_value 13 = .ok (.iaload, 1) := by decide +kernel
theorem dX12_value_14 : decode cX12_value 14 = .ok (.ireturn, 1) := by decide +kernel
def fX12_value (F : Nat) (a0 : Nat) (a1 : Int) (a2 : Int) (a3 : Int) (a4 : Int) (h : HF) : RO :=
  zbd (fX12_at F a0 a1 a2 a3 a4 h) fun r1 h =>
  zrd h (a0 + 6) r1 fun x2 =>
  some (x2, h)
set_option maxHeartbeats 4000000 in
set_option maxRecDepth 100000 in
theorem mX12_value (F : Nat) (l : Launch) (g : zG) (B : Nat) (h : HF) (a0 : Nat) (a1 : Int) (a2 : Int) (a3 : Int) (a4 : Int) (ra0 : kt a0 = 15) (ra1 : rng a1) (ra2 : rng a2) (ra3 : rng a3) (ra4 : rng a4) : CTi l g B yX12_value cX12_value 5 (some .int) 2 [.ref (B + a0), .int (ii a1), .int (ii a2), .int (ii a3), .int (ii a4)] h (fX12_value F a0 a1 a2 a3 a4 h) := by
  refine z_enterI (by decide) rfl (Nat.le_of_ble_eq_true rfl) ?_
  intro p e s m args below meth c ls o Q cx hp hl hf hQ
  have hl : lv_has ls 5 [(0, .ref (B + a0)), (1, .int (ii a1)), (2, .int (ii a2)), (3, .int (ii a3)), (4, .int (ii a4))] := hl
  unfold fX12_value at hf
  refine lv_aload_n cx.1 cx.2.1 dX12_value_0 rfl (lv_at hl 0 rfl) ?_
  refine z_gets cx hp (T := TX12) 12 9 (a0 + 6) rfl zin_12 (by decide) (by decide) ra0 rfl fl_X12_25 dX12_value_1 ?_
  refine lv_aload_n cx.1 cx.2.1 dX12_value_4 rfl (lv_at hl 0 rfl) ?_
  refine lv_iload_n cx.1 cx.2.1 dX12_value_5 rfl (lv_at hl 1 rfl) ?_
  refine lv_iload_n cx.1 cx.2.1 dX12_value_6 rfl (lv_at hl 2 rfl) ?_
  refine lv_iload_n cx.1 cx.2.1 dX12_value_7 rfl (lv_at hl 3 rfl) ?_
  refine lv_iload cx.1 cx.2.1 dX12_value_8 (lv_at hl 4 rfl) ?_
  refine z_ci cx hp (fun o' hx => zrunV (n := 2) (As := [.int (ii a1), .int (ii a2), .int (ii a3), .int (ii a4)]) (rest := [.ref (B + (a0 + 6))]) cx hp (mX12_at F l g B h a0 a1 a2 a3 a4 ra0 ra1 ra2 ra3 ra4 o' hx) 12 ra0 (by decide) rfl vw_X12_at ml_X12_136 (by decide) rfl hl.1 rfl (Nat.le_of_ble_eq_true rfl) dX12_value_10) hf (fun r1 h H locs rr1 hp hf => ?_)
  refine z_iald cx hp (zs_12_9 a0 (kt_lt ra0 (by decide)) ra0) rr1 dX12_value_13 hf (fun x2 rx2 hf => ?_)
  rw [hQ]; exact z_iret cx hp rx2 dX12_value_14 hf
theorem dX12_lineAt_0 : decode cX12_lineAt 0 = .ok (.iload_n 2, 1) := by decide +kernel
theorem dX12_lineAt_1 : decode cX12_lineAt 1 = .ok (.istore_n 3, 1) := by decide +kernel
theorem dX12_lineAt_2 : decode cX12_lineAt 2 = .ok (.iconst 0, 1) := by decide +kernel
theorem dX12_lineAt_3 : decode cX12_lineAt 3 = .ok (.istore 4, 2) := by decide +kernel
theorem dX12_lineAt_5 : decode cX12_lineAt 5 = .ok (.iload_n 3, 1) := by decide +kernel
theorem dX12_lineAt_6 : decode cX12_lineAt 6 = .ok (.aload_n 0, 1) := by decide +kernel
theorem dX12_lineAt_7 : decode cX12_lineAt 7 = .ok (.getfield 16, 3) := by decide +kernel
theorem dX12_lineAt_10 : decode cX12_lineAt 10 = .ok (.iload_n 1, 1) := by decide +kernel
theorem dX12_lineAt_11 : decode cX12_lineAt 11 = .ok (.iaload, 1) := by decide +kernel
theorem dX12_lineAt_12 : decode cX12_lineAt 12 = .ok (.aload_n 0, 1) := by decide +kernel
theorem dX12_lineAt_13 : decode cX12_lineAt 13 = .ok (.iload_n 1, 1) := by decide +kernel
theorem dX12_lineAt_14 : decode cX12_lineAt 14 = .ok (.iload 4, 2) := by decide +kernel
theorem dX12_lineAt_16 : decode cX12_lineAt 16 = .ok (.invokevirtual 129, 3) := by decide +kernel
theorem dX12_lineAt_19 : decode cX12_lineAt 19 = .ok (.invokestatic 133, 3) := by decide +kernel
theorem dX12_lineAt_22 : decode cX12_lineAt 22 = .ok (.if_icmp .lt 28, 3) := by decide +kernel
theorem dX12_lineAt_25 : decode cX12_lineAt 25 = .ok (.iload_n 3, 1) := by decide +kernel
theorem dX12_lineAt_26 : decode cX12_lineAt 26 = .ok (.aload_n 0, 1) := by decide +kernel
theorem dX12_lineAt_27 : decode cX12_lineAt 27 = .ok (.getfield 16, 3) := by decide +kernel
theorem dX12_lineAt_30 : decode cX12_lineAt 30 = .ok (.iload_n 1, 1) := by decide +kernel
theorem dX12_lineAt_31 : decode cX12_lineAt 31 = .ok (.iaload, 1) := by decide +kernel
theorem dX12_lineAt_32 : decode cX12_lineAt 32 = .ok (.aload_n 0, 1) := by decide +kernel
theorem dX12_lineAt_33 : decode cX12_lineAt 33 = .ok (.iload_n 1, 1) := by decide +kernel
theorem dX12_lineAt_34 : decode cX12_lineAt 34 = .ok (.iload 4, 2) := by decide +kernel
theorem dX12_lineAt_36 : decode cX12_lineAt 36 = .ok (.invokevirtual 129, 3) := by decide +kernel
theorem dX12_lineAt_39 : decode cX12_lineAt 39 = .ok (.invokestatic 133, 3) := by decide +kernel
theorem dX12_lineAt_42 : decode cX12_lineAt 42 = .ok (.isub, 1) := by decide +kernel
theorem dX12_lineAt_43 : decode cX12_lineAt 43 = .ok (.istore_n 3, 1) := by decide +kernel
theorem dX12_lineAt_44 : decode cX12_lineAt 44 = .ok (.iinc 4 1, 3) := by decide +kernel
theorem dX12_lineAt_47 : decode cX12_lineAt 47 = .ok (.goto (-42), 3) := by decide +kernel
theorem dX12_lineAt_50 : decode cX12_lineAt 50 = .ok (.sipush 196, 3) := by decide +kernel
theorem dX12_lineAt_53 : decode cX12_lineAt 53 = .ok (.iload_n 1, 1) := by decide +kernel
theorem dX12_lineAt_54 : decode cX12_lineAt 54 = .ok (.imul, 1) := by decide +kernel
theorem dX12_lineAt_55 : decode cX12_lineAt 55 = .ok (.bipush 49, 2) := by decide +kernel
theorem dX12_lineAt_57 : decode cX12_lineAt 57 = .ok (.iload 4, 2) := by decide +kernel
theorem dX12_lineAt_59 : decode cX12_lineAt 59 = .ok (.imul, 1) := by decide +kernel
theorem dX12_lineAt_60 : decode cX12_lineAt 60 = .ok (.iadd, 1) := by decide +kernel
theorem dX12_lineAt_61 : decode cX12_lineAt 61 = .ok (.iload_n 3, 1) := by decide +kernel
theorem dX12_lineAt_62 : decode cX12_lineAt 62 = .ok (.iadd, 1) := by decide +kernel
theorem dX12_lineAt_63 : decode cX12_lineAt 63 = .ok (.ireturn, 1) := by decide +kernel
def LX12_lineAt_5 (F : Nat) (u0 : Nat) (u1 : Int) (k50 : Int → Int → HF → RO) : Nat → Int → Int → HF → RO
  | 0, _, _, _ => none
  | n + 1, v3, v4, h =>
    zrd h (u0 + 3) u1 fun x1 =>
    zbd (fX12_arity F u0 u1 v4 h) fun r2 h =>
    zbd (fX12_power F x1 r2 h) fun r3 h =>
    if v3 < r3 then (
      k50 v3 v4 h
    ) else (
      zrd h (u0 + 3) u1 fun x4 =>
      zbd (fX12_arity F u0 u1 v4 h) fun r5 h =>
      zbd (fX12_power F x4 r5 h) fun r6 h =>
      zlet (wr (v3 - r6)) fun x7 =>
      zlet (wr (v4 + 1)) fun x8 =>
      LX12_lineAt_5 F u0 u1 k50 n x7 x8 h
    )
set_option maxHeartbeats 4000000 in
set_option maxRecDepth 100000 in
theorem wX12_lineAt_5 {p : Program} {l : Launch} {e : Env} {s : State} {m : MethodId} {args : Array Value} {below : List Frame} {meth : Method} {c : Code} {Q : State → Prop} {g : zG} {B : Nat} {o : Int × HF} (F : Nat) (cx : Cx p s m args meth c cX12_lineAt 5 RX12 (some .int) g B) (u0 : Nat) (ru0 : kt u0 = 15) (u1 : Int) (ru1 : rng u1) (k50 : Int → Int → HF → RO) (hk50 : ∀ (x3 : Int) (x4 : Int) (h : HF) (H : Heap) (locs : List Loc) (ls : Array Slot), rng x3 → rng x4 → Hp g B s h H locs → lv_has ls 5 [(1, .int (ii u1)), (3, .int (ii x3)), (4, .int (ii x4))] → k50 x3 x4 h = some o → W p l e (rmn 1) s m args below meth c H locs 0 0 Q (F0 m 50 ls [])) : ∀ (n : Nat) (v3 : Int) (v4 : Int) (h : HF) (H : Heap) (locs : List Loc) (ls : Array Slot), rng v3 → rng v4 → Hp g B s h H locs → lv_has ls 5 [(0, .ref (B + u0)), (1, .int (ii u1)), (3, .int (ii v3)), (4, .int (ii v4))] → LX12_lineAt_5 F u0 u1 k50 n v3 v4 h = some o → W p l e (rmn 1) s m args below meth c H locs 0 0 Q (F0 m 5 ls []) := by
  intro n
  induction n with
  | zero =>
    intro v3 v4 h H locs ls rv3 rv4 hp hl hf
    cases hf
  | succ n ih =>
    intro v3 v4 h H locs ls rv3 rv4 hp hl hf
    rw [LX12_lineAt_5] at hf
    refine lv_iload_n cx.1 cx.2.1 dX12_lineAt_5 rfl (lv_at hl 2 rfl) ?_
    refine lv_aload_n cx.1 cx.2.1 dX12_lineAt_6 rfl (lv_at hl 0 rfl) ?_
    refine z_gets cx hp (T := TX12) 12 6 (u0 + 3) rfl zin_12 (by decide) (by decide) ru0 rfl fl_X12_16 dX12_lineAt_7 ?_
    refine lv_iload_n cx.1 cx.2.1 dX12_lineAt_10 rfl (lv_at hl 1 rfl) ?_
    refine z_iald cx hp (zs_12_6 u0 (kt_lt ru0 (by decide)) ru0) ru1 dX12_lineAt_11 hf (fun x1 rx1 hf => ?_)
    refine lv_aload_n cx.1 cx.2.1 dX12_lineAt_12 rfl (lv_at hl 0 rfl) ?_
    refine lv_iload_n cx.1 cx.2.1 dX12_lineAt_13 rfl (lv_at hl 1 rfl) ?_
    refine lv_iload cx.1 cx.2.1 dX12_lineAt_14 (lv_at hl 3 rfl) ?_
    refine z_ci cx hp (fun o' hx => zrunV (n := 1) (As := [.int (ii u1), .int (ii v4)]) (rest := [.int (ii x1), .int (ii v3)]) cx hp (mX12_arity F l g B h u0 u1 v4 ru0 ru1 rv4 o' hx) 12 ru0 (by decide) rfl vw_X12_arity ml_X12_129 (by decide) rfl hl.1 rfl (Nat.le_of_ble_eq_true rfl) dX12_lineAt_16) hf (fun r2 h H locs rr2 hp hf => ?_)
    refine z_ci cx hp (fun o' hx => zrunS (n := 1) (As := [.int (ii x1), .int (ii r2)]) (rest := [.int (ii v3)]) cx hp (mX12_power F l g B h x1 r2 rx1 rr2 o' hx) sw_X12_power ml_X12_133 (by decide) rfl hl.1 rfl (Nat.le_of_ble_eq_true rfl) dX12_lineAt_19) hf (fun r3 h H locs rr3 hp hf => ?_)
    refine z_icmp_lt cx rv3 rr3 (tgt := 50) dX12_lineAt_22 (by decide) hf (fun _ hf => ?_) (fun _ hf => ?_)
    · exact hk50 v3 v4 h _ _ ls rv3 rv4 hp (lv_sub hl [1, 2, 3] rfl) hf
    · refine lv_iload_n cx.1 cx.2.1 dX12_lineAt_25 rfl (lv_at hl 2 rfl) ?_
      refine lv_aload_n cx.1 cx.2.1 dX12_lineAt_26 rfl (lv_at hl 0 rfl) ?_
      refine z_gets cx hp (T := TX12) 12 6 (u0 + 3) rfl zin_12 (by decide) (by decide) ru0 rfl fl_X12_16 dX12_lineAt_27 ?_
      refine lv_iload_n cx.1 cx.2.1 dX12_lineAt_30 rfl (lv_at hl 1 rfl) ?_
      refine z_iald cx hp (zs_12_6 u0 (kt_lt ru0 (by decide)) ru0) ru1 dX12_lineAt_31 hf (fun x4 rx4 hf => ?_)
      refine lv_aload_n cx.1 cx.2.1 dX12_lineAt_32 rfl (lv_at hl 0 rfl) ?_
      refine lv_iload_n cx.1 cx.2.1 dX12_lineAt_33 rfl (lv_at hl 1 rfl) ?_
      refine lv_iload cx.1 cx.2.1 dX12_lineAt_34 (lv_at hl 3 rfl) ?_
      refine z_ci cx hp (fun o' hx => zrunV (n := 1) (As := [.int (ii u1), .int (ii v4)]) (rest := [.int (ii x4), .int (ii v3)]) cx hp (mX12_arity F l g B h u0 u1 v4 ru0 ru1 rv4 o' hx) 12 ru0 (by decide) rfl vw_X12_arity ml_X12_129 (by decide) rfl hl.1 rfl (Nat.le_of_ble_eq_true rfl) dX12_lineAt_36) hf (fun r5 h H locs rr5 hp hf => ?_)
      refine z_ci cx hp (fun o' hx => zrunS (n := 1) (As := [.int (ii x4), .int (ii r5)]) (rest := [.int (ii v3)]) cx hp (mX12_power F l g B h x4 r5 rx4 rr5 o' hx) sw_X12_power ml_X12_133 (by decide) rfl hl.1 rfl (Nat.le_of_ble_eq_true rfl) dX12_lineAt_39) hf (fun r6 h H locs rr6 hp hf => ?_)
      refine z_isub cx dX12_lineAt_42 ?_
      refine z_let (rng_wr _) hf (fun x7 rx7 hf => ?_)
      refine lv_istore_n (lv' := [(3, .int (ii x7)), (0, .ref (B + u0)), (1, .int (ii u1)), (4, .int (ii v4))]) cx.1 cx.2.1 dX12_lineAt_43 rfl hl (by decide) rfl (fun ls hl => ?_)
      refine z_iinc cx (fun x8 => [(4, .int (ii x8)), (3, .int (ii x7)), (0, .ref (B + u0)), (1, .int (ii u1))]) dX12_lineAt_44 hl (k := 3) rfl (by decide) (fun _ => rfl) hf (fun x8 rx8 hf ls hl => ?_)
      refine lv_goto (tgt := 5) cx.1 cx.2.1 dX12_lineAt_47 (by decide) ?_
      exact ih x7 x8 h _ _ ls rx7 rx8 hp (lv_sub hl [2, 3, 1, 0] rfl) hf
def fX12_lineAt (F : Nat) (a0 : Nat) (a1 : Int) (a2 : Int) (h : HF) : RO :=
  zjn (fun (x50_3 : Int) (x50_4 : Int) (h : HF) => (
    some (wr ((wr ((wr (196 * a1)) + (wr (49 * x50_4)))) + x50_3), h)
  )) fun j50 =>
  LX12_lineAt_5 F a0 a1 j50 F a2 0 h
set_option maxHeartbeats 4000000 in
set_option maxRecDepth 100000 in
theorem mX12_lineAt (F : Nat) (l : Launch) (g : zG) (B : Nat) (h : HF) (a0 : Nat) (a1 : Int) (a2 : Int) (ra0 : kt a0 = 15) (ra1 : rng a1) (ra2 : rng a2) : CTi l g B yX12_lineAt cX12_lineAt 5 (some .int) 1 [.ref (B + a0), .int (ii a1), .int (ii a2)] h (fX12_lineAt F a0 a1 a2 h) := by
  refine z_enterI (by decide) rfl (Nat.le_of_ble_eq_true rfl) ?_
  intro p e s m args below meth c ls o Q cx hp hl hf hQ
  have hl : lv_has ls 5 [(0, .ref (B + a0)), (1, .int (ii a1)), (2, .int (ii a2))] := hl
  unfold fX12_lineAt at hf
  refine lv_iload_n cx.1 cx.2.1 dX12_lineAt_0 rfl (lv_at hl 2 rfl) ?_
  refine lv_istore_n (lv' := [(3, .int (ii a2)), (0, .ref (B + a0)), (1, .int (ii a1)), (2, .int (ii a2))]) cx.1 cx.2.1 dX12_lineAt_1 rfl hl (by decide) rfl (fun ls hl => ?_)
  refine z_iconst cx dX12_lineAt_2 ?_
  refine lv_istore (lv' := [(4, .int (ii 0)), (3, .int (ii a2)), (0, .ref (B + a0)), (1, .int (ii a1)), (2, .int (ii a2))]) cx.1 cx.2.1 dX12_lineAt_3 hl (by decide) rfl (fun ls hl => ?_)
  refine z_jn hf (fun j => ∀ (x50_3 : Int) (x50_4 : Int) (h : HF) (H : Heap) (locs : List Loc) (ls : Array Slot), rng x50_3 → rng x50_4 → Hp g B s h H locs → lv_has ls 5 [(1, .int (ii a1)), (3, .int (ii x50_3)), (4, .int (ii x50_4))] → j x50_3 x50_4 h = some o → W p l e (rmn 1) s m args below meth c H locs 0 0 Q (F0 m 50 ls [])) ?_ (fun j50 hj50 hf => ?_)
  · intro x50_3 x50_4 h H locs ls rx50_3 rx50_4 hp hl hf
    refine z_sipush cx (by decide) dX12_lineAt_50 ?_
    refine lv_iload_n cx.1 cx.2.1 dX12_lineAt_53 rfl (lv_at hl 0 rfl) ?_
    refine z_imul cx dX12_lineAt_54 ?_
    refine z_bipush cx (by decide) dX12_lineAt_55 ?_
    refine lv_iload cx.1 cx.2.1 dX12_lineAt_57 (lv_at hl 2 rfl) ?_
    refine z_imul cx dX12_lineAt_59 ?_
    refine z_iadd cx dX12_lineAt_60 ?_
    refine lv_iload_n cx.1 cx.2.1 dX12_lineAt_61 rfl (lv_at hl 1 rfl) ?_
    refine z_iadd cx dX12_lineAt_62 ?_
    rw [hQ]; exact z_iret cx hp (rng_wr _) dX12_lineAt_63 hf
  exact wX12_lineAt_5 F cx a0 ra0 a1 ra1 j50 hj50 F a2 0 h _ _ ls ra2 (by decide) hp (lv_sub hl [2, 3, 1, 0] rfl) hf
theorem dX12_copy_0 : decode cX12_copy 0 = .ok (.aload_n 0, 1) := by decide +kernel
theorem dX12_copy_1 : decode cX12_copy 1 = .ok (.getfield 16, 3) := by decide +kernel
theorem dX12_copy_4 : decode cX12_copy 4 = .ok (.iload_n 2, 1) := by decide +kernel
theorem dX12_copy_5 : decode cX12_copy 5 = .ok (.aload_n 0, 1) := by decide +kernel
theorem dX12_copy_6 : decode cX12_copy 6 = .ok (.getfield 16, 3) := by decide +kernel
theorem dX12_copy_9 : decode cX12_copy 9 = .ok (.iload_n 1, 1) := by decide +kernel
theorem dX12_copy_10 : decode cX12_copy 10 = .ok (.iaload, 1) := by decide +kernel
theorem dX12_copy_11 : decode cX12_copy 11 = .ok (.iastore, 1) := by decide +kernel
theorem dX12_copy_12 : decode cX12_copy 12 = .ok (.aload_n 0, 1) := by decide +kernel
theorem dX12_copy_13 : decode cX12_copy 13 = .ok (.getfield 19, 3) := by decide +kernel
theorem dX12_copy_16 : decode cX12_copy 16 = .ok (.iload_n 2, 1) := by decide +kernel
theorem dX12_copy_17 : decode cX12_copy 17 = .ok (.aload_n 0, 1) := by decide +kernel
theorem dX12_copy_18 : decode cX12_copy 18 = .ok (.getfield 19, 3) := by decide +kernel
theorem dX12_copy_21 : decode cX12_copy 21 = .ok (.iload_n 1, 1) := by decide +kernel
theorem dX12_copy_22 : decode cX12_copy 22 = .ok (.iaload, 1) := by decide +kernel
theorem dX12_copy_23 : decode cX12_copy 23 = .ok (.iastore, 1) := by decide +kernel
theorem dX12_copy_24 : decode cX12_copy 24 = .ok (.iconst 0, 1) := by decide +kernel
theorem dX12_copy_25 : decode cX12_copy 25 = .ok (.istore_n 3, 1) := by decide +kernel
theorem dX12_copy_26 : decode cX12_copy 26 = .ok (.iload_n 3, 1) := by decide +kernel
theorem dX12_copy_27 : decode cX12_copy 27 = .ok (.iconst 4, 1) := by decide +kernel
theorem dX12_copy_28 : decode cX12_copy 28 = .ok (.if_icmp .ge 29, 3) := by decide +kernel
theorem dX12_copy_31 : decode cX12_copy 31 = .ok (.aload_n 0, 1) := by decide +kernel
theorem dX12_copy_32 : decode cX12_copy 32 = .ok (.getfield 22, 3) := by decide +kernel
theorem dX12_copy_35 : decode cX12_copy 35 = .ok (.iconst 4, 1) := by decide +kernel
theorem dX12_copy_36 : decode cX12_copy 36 = .ok (.iload_n 2, 1) := by decide +kernel
theorem dX12_copy_37 : decode cX12_copy 37 = .ok (.imul, 1) := by decide +kernel
theorem dX12_copy_38 : decode cX12_copy 38 = .ok (.iload_n 3, 1) := by decide +kernel
theorem dX12_copy_39 : decode cX12_copy 39 = .ok (.iadd, 1) := by decide +kernel
theorem dX12_copy_40 : decode cX12_copy 40 = .ok (.aload_n 0, 1) := by decide +kernel
theorem dX12_copy_41 : decode cX12_copy 41 = .ok (.getfield 22, 3) := by decide +kernel
theorem dX12_copy_44 : decode cX12_copy 44 = .ok (.iconst 4, 1) := by decide +kernel
theorem dX12_copy_45 : decode cX12_copy 45 = .ok (.iload_n 1, 1) := by decide +kernel
theorem dX12_copy_46 : decode cX12_copy 46 = .ok (.imul, 1) := by decide +kernel
theorem dX12_copy_47 : decode cX12_copy 47 = .ok (.iload_n 3, 1) := by decide +kernel
theorem dX12_copy_48 : decode cX12_copy 48 = .ok (.iadd, 1) := by decide +kernel
theorem dX12_copy_49 : decode cX12_copy 49 = .ok (.iaload, 1) := by decide +kernel
theorem dX12_copy_50 : decode cX12_copy 50 = .ok (.iastore, 1) := by decide +kernel
theorem dX12_copy_51 : decode cX12_copy 51 = .ok (.iinc 3 1, 3) := by decide +kernel
theorem dX12_copy_54 : decode cX12_copy 54 = .ok (.goto (-28), 3) := by decide +kernel
theorem dX12_copy_57 : decode cX12_copy 57 = .ok (.iconst 0, 1) := by decide +kernel
theorem dX12_copy_58 : decode cX12_copy 58 = .ok (.istore_n 3, 1) := by decide +kernel
theorem dX12_copy_59 : decode cX12_copy 59 = .ok (.iload_n 3, 1) := by decide +kernel
theorem dX12_copy_60 : decode cX12_copy 60 = .ok (.sipush 196, 3) := by decide +kernel
theorem dX12_copy_63 : decode cX12_copy 63 = .ok (.if_icmp .ge 33, 3) := by decide +kernel
theorem dX12_copy_66 : decode cX12_copy 66 = .ok (.aload_n 0, 1) := by decide +kernel
theorem dX12_copy_67 : decode cX12_copy 67 = .ok (.getfield 25, 3) := by decide +kernel
theorem dX12_copy_70 : decode cX12_copy 70 = .ok (.sipush 196, 3) := by decide +kernel
theorem dX12_copy_73 : decode cX12_copy 73 = .ok (.iload_n 2, 1) := by decide +kernel
theorem dX12_copy_74 : decode cX12_copy 74 = .ok (.imul, 1) := by decide +kernel
theorem dX12_copy_75 : decode cX12_copy 75 = .ok (.iload_n 3, 1) := by decide +kernel
theorem dX12_copy_76 : decode cX12_copy 76 = .ok (.iadd, 1) := by decide +kernel
theorem dX12_copy_77 : decode cX12_copy 77 = .ok (.aload_n 0, 1) := by decide +kernel
theorem dX12_copy_78 : decode cX12_copy 78 = .ok (.getfield 25, 3) := by decide +kernel
theorem dX12_copy_81 : decode cX12_copy 81 = .ok (.sipush 196, 3) := by decide +kernel
theorem dX12_copy_84 : decode cX12_copy 84 = .ok (.iload_n 1, 1) := by decide +kernel
theorem dX12_copy_85 : decode cX12_copy 85 = .ok (.imul, 1) := by decide +kernel
theorem dX12_copy_86 : decode cX12_copy 86 = .ok (.iload_n 3, 1) := by decide +kernel
theorem dX12_copy_87 : decode cX12_copy 87 = .ok (.iadd, 1) := by decide +kernel
theorem dX12_copy_88 : decode cX12_copy 88 = .ok (.iaload, 1) := by decide +kernel
theorem dX12_copy_89 : decode cX12_copy 89 = .ok (.iastore, 1) := by decide +kernel
theorem dX12_copy_90 : decode cX12_copy 90 = .ok (.iinc 3 1, 3) := by decide +kernel
theorem dX12_copy_93 : decode cX12_copy 93 = .ok (.goto (-34), 3) := by decide +kernel
theorem dX12_copy_96 : decode cX12_copy 96 = .ok (.return_, 1) := by decide +kernel
def LX12_copy_59 (F : Nat) (u0 : Nat) (u1 : Int) (u2 : Int) (k96 : HF → RO) : Nat → Int → HF → RO
  | 0, _, _ => none
  | n + 1, v3, h =>
    if v3 < 196 then (
      zrd h (u0 + 6) (wr ((wr (196 * u1)) + v3)) fun x3 =>
      zwr h (u0 + 6) (wr ((wr (196 * u2)) + v3)) x3 fun h =>
      zlet (wr (v3 + 1)) fun x4 =>
      LX12_copy_59 F u0 u1 u2 k96 n x4 h
    ) else (
      k96  h
    )
set_option maxHeartbeats 4000000 in
set_option maxRecDepth 100000 in
theorem wX12_copy_59 {p : Program} {l : Launch} {e : Env} {s : State} {m : MethodId} {args : Array Value} {below : List Frame} {meth : Method} {c : Code} {Q : State → Prop} {g : zG} {B : Nat} {o : Int × HF} (F : Nat) (cx : Cx p s m args meth c cX12_copy 4 RX12 none g B) (u0 : Nat) (ru0 : kt u0 = 15) (u1 : Int) (ru1 : rng u1) (u2 : Int) (ru2 : rng u2) (k96 : HF → RO) (hk96 : ∀  (h : HF) (H : Heap) (locs : List Loc) (ls : Array Slot), Hp g B s h H locs → lv_has ls 4 [] → k96  h = some o → W p l e (rmn 0) s m args below meth c H locs 0 0 Q (F0 m 96 ls [])) : ∀ (n : Nat) (v3 : Int) (h : HF) (H : Heap) (locs : List Loc) (ls : Array Slot), rng v3 → Hp g B s h H locs → lv_has ls 4 [(0, .ref (B + u0)), (1, .int (ii u1)), (2, .int (ii u2)), (3, .int (ii v3))] → LX12_copy_59 F u0 u1 u2 k96 n v3 h = some o → W p l e (rmn 0) s m args below meth c H locs 0 0 Q (F0 m 59 ls []) := by
  intro n
  induction n with
  | zero =>
    intro v3 h H locs ls rv3 hp hl hf
    cases hf
  | succ n ih =>
    intro v3 h H locs ls rv3 hp hl hf
    rw [LX12_copy_59] at hf
    refine lv_iload_n cx.1 cx.2.1 dX12_copy_59 rfl (lv_at hl 3 rfl) ?_
    refine z_sipush cx (by decide) dX12_copy_60 ?_
    refine z_icmp_ge cx rv3 (by decide) (tgt := 96) dX12_copy_63 (by decide) hf (fun _ hf => ?_) (fun _ hf => ?_)
    · refine lv_aload_n cx.1 cx.2.1 dX12_copy_66 rfl (lv_at hl 0 rfl) ?_
      refine z_gets cx hp (T := TX12) 12 9 (u0 + 6) rfl zin_12 (by decide) (by decide) ru0 rfl fl_X12_25 dX12_copy_67 ?_
      refine z_sipush cx (by decide) dX12_copy_70 ?_
      refine lv_iload_n cx.1 cx.2.1 dX12_copy_73 rfl (lv_at hl 2 rfl) ?_
      refine z_imul cx dX12_copy_74 ?_
      refine lv_iload_n cx.1 cx.2.1 dX12_copy_75 rfl (lv_at hl 3 rfl) ?_
      refine z_iadd cx dX12_copy_76 ?_
      refine lv_aload_n cx.1 cx.2.1 dX12_copy_77 rfl (lv_at hl 0 rfl) ?_
      refine z_gets cx hp (T := TX12) 12 9 (u0 + 6) rfl zin_12 (by decide) (by decide) ru0 rfl fl_X12_25 dX12_copy_78 ?_
      refine z_sipush cx (by decide) dX12_copy_81 ?_
      refine lv_iload_n cx.1 cx.2.1 dX12_copy_84 rfl (lv_at hl 1 rfl) ?_
      refine z_imul cx dX12_copy_85 ?_
      refine lv_iload_n cx.1 cx.2.1 dX12_copy_86 rfl (lv_at hl 3 rfl) ?_
      refine z_iadd cx dX12_copy_87 ?_
      refine z_iald cx hp (zs_12_9 u0 (kt_lt ru0 (by decide)) ru0) (rng_wr _) dX12_copy_88 hf (fun x3 rx3 hf => ?_)
      refine z_iast cx hp (zs_12_9 u0 (kt_lt ru0 (by decide)) ru0) (rng_wr _) rx3 dX12_copy_89 hf (fun h H locs hp hf => ?_)
      refine z_iinc cx (fun x4 => [(3, .int (ii x4)), (0, .ref (B + u0)), (1, .int (ii u1)), (2, .int (ii u2))]) dX12_copy_90 hl (k := 3) rfl (by decide) (fun _ => rfl) hf (fun x4 rx4 hf ls hl => ?_)
      refine lv_goto (tgt := 59) cx.1 cx.2.1 dX12_copy_93 (by decide) ?_
      exact ih x4 h _ _ ls rx4 hp (lv_sub hl [1, 2, 3, 0] rfl) hf
    · exact hk96  h _ _ ls  hp (lv_sub hl [] rfl) hf
def LX12_copy_26 (F : Nat) (u0 : Nat) (u1 : Int) (u2 : Int) (k57 : HF → RO) : Nat → Int → HF → RO
  | 0, _, _ => none
  | n + 1, v3, h =>
    if v3 < 4 then (
      zrd h (u0 + 5) (wr ((wr (4 * u1)) + v3)) fun x5 =>
      zwr h (u0 + 5) (wr ((wr (4 * u2)) + v3)) x5 fun h =>
      zlet (wr (v3 + 1)) fun x6 =>
      LX12_copy_26 F u0 u1 u2 k57 n x6 h
    ) else (
      k57  h
    )
set_option maxHeartbeats 4000000 in
set_option maxRecDepth 100000 in
theorem wX12_copy_26 {p : Program} {l : Launch} {e : Env} {s : State} {m : MethodId} {args : Array Value} {below : List Frame} {meth : Method} {c : Code} {Q : State → Prop} {g : zG} {B : Nat} {o : Int × HF} (F : Nat) (cx : Cx p s m args meth c cX12_copy 4 RX12 none g B) (u0 : Nat) (ru0 : kt u0 = 15) (u1 : Int) (ru1 : rng u1) (u2 : Int) (ru2 : rng u2) (k57 : HF → RO) (hk57 : ∀  (h : HF) (H : Heap) (locs : List Loc) (ls : Array Slot), Hp g B s h H locs → lv_has ls 4 [(0, .ref (B + u0)), (1, .int (ii u1)), (2, .int (ii u2))] → k57  h = some o → W p l e (rmn 0) s m args below meth c H locs 0 0 Q (F0 m 57 ls [])) : ∀ (n : Nat) (v3 : Int) (h : HF) (H : Heap) (locs : List Loc) (ls : Array Slot), rng v3 → Hp g B s h H locs → lv_has ls 4 [(0, .ref (B + u0)), (1, .int (ii u1)), (2, .int (ii u2)), (3, .int (ii v3))] → LX12_copy_26 F u0 u1 u2 k57 n v3 h = some o → W p l e (rmn 0) s m args below meth c H locs 0 0 Q (F0 m 26 ls []) := by
  intro n
  induction n with
  | zero =>
    intro v3 h H locs ls rv3 hp hl hf
    cases hf
  | succ n ih =>
    intro v3 h H locs ls rv3 hp hl hf
    rw [LX12_copy_26] at hf
    refine lv_iload_n cx.1 cx.2.1 dX12_copy_26 rfl (lv_at hl 3 rfl) ?_
    refine z_iconst cx dX12_copy_27 ?_
    refine z_icmp_ge cx rv3 (by decide) (tgt := 57) dX12_copy_28 (by decide) hf (fun _ hf => ?_) (fun _ hf => ?_)
    · refine lv_aload_n cx.1 cx.2.1 dX12_copy_31 rfl (lv_at hl 0 rfl) ?_
      refine z_gets cx hp (T := TX12) 12 8 (u0 + 5) rfl zin_12 (by decide) (by decide) ru0 rfl fl_X12_22 dX12_copy_32 ?_
      refine z_iconst cx dX12_copy_35 ?_
      refine lv_iload_n cx.1 cx.2.1 dX12_copy_36 rfl (lv_at hl 2 rfl) ?_
      refine z_imul cx dX12_copy_37 ?_
      refine lv_iload_n cx.1 cx.2.1 dX12_copy_38 rfl (lv_at hl 3 rfl) ?_
      refine z_iadd cx dX12_copy_39 ?_
      refine lv_aload_n cx.1 cx.2.1 dX12_copy_40 rfl (lv_at hl 0 rfl) ?_
      refine z_gets cx hp (T := TX12) 12 8 (u0 + 5) rfl zin_12 (by decide) (by decide) ru0 rfl fl_X12_22 dX12_copy_41 ?_
      refine z_iconst cx dX12_copy_44 ?_
      refine lv_iload_n cx.1 cx.2.1 dX12_copy_45 rfl (lv_at hl 1 rfl) ?_
      refine z_imul cx dX12_copy_46 ?_
      refine lv_iload_n cx.1 cx.2.1 dX12_copy_47 rfl (lv_at hl 3 rfl) ?_
      refine z_iadd cx dX12_copy_48 ?_
      refine z_iald cx hp (zs_12_8 u0 (kt_lt ru0 (by decide)) ru0) (rng_wr _) dX12_copy_49 hf (fun x5 rx5 hf => ?_)
      refine z_iast cx hp (zs_12_8 u0 (kt_lt ru0 (by decide)) ru0) (rng_wr _) rx5 dX12_copy_50 hf (fun h H locs hp hf => ?_)
      refine z_iinc cx (fun x6 => [(3, .int (ii x6)), (0, .ref (B + u0)), (1, .int (ii u1)), (2, .int (ii u2))]) dX12_copy_51 hl (k := 3) rfl (by decide) (fun _ => rfl) hf (fun x6 rx6 hf ls hl => ?_)
      refine lv_goto (tgt := 26) cx.1 cx.2.1 dX12_copy_54 (by decide) ?_
      exact ih x6 h _ _ ls rx6 hp (lv_sub hl [1, 2, 3, 0] rfl) hf
    · exact hk57  h _ _ ls  hp (lv_sub hl [0, 1, 2] rfl) hf
def fX12_copy (F : Nat) (a0 : Nat) (a1 : Int) (a2 : Int) (h : HF) : RO :=
  zrd h (a0 + 3) a1 fun x1 =>
  zwr h (a0 + 3) a2 x1 fun h =>
  zrd h (a0 + 4) a1 fun x2 =>
  zwr h (a0 + 4) a2 x2 fun h =>
  zjn (fun  (h : HF) => (
    zjn (fun  (h : HF) => (
      some (0, h)
    )) fun j96 =>
    LX12_copy_59 F a0 a1 a2 j96 F 0 h
  )) fun j57 =>
  LX12_copy_26 F a0 a1 a2 j57 F 0 h
set_option maxHeartbeats 4000000 in
set_option maxRecDepth 100000 in
theorem mX12_copy (F : Nat) (l : Launch) (g : zG) (B : Nat) (h : HF) (a0 : Nat) (a1 : Int) (a2 : Int) (ra0 : kt a0 = 15) (ra1 : rng a1) (ra2 : rng a2) : CTv l g B yX12_copy cX12_copy 4 0 [.ref (B + a0), .int (ii a1), .int (ii a2)] h (fX12_copy F a0 a1 a2 h) := by
  refine z_enterV (by decide) rfl (Nat.le_of_ble_eq_true rfl) ?_
  intro p e s m args below meth c ls o Q cx hp hl hf hQ
  have hl : lv_has ls 4 [(0, .ref (B + a0)), (1, .int (ii a1)), (2, .int (ii a2))] := hl
  unfold fX12_copy at hf
  refine lv_aload_n cx.1 cx.2.1 dX12_copy_0 rfl (lv_at hl 0 rfl) ?_
  refine z_gets cx hp (T := TX12) 12 6 (a0 + 3) rfl zin_12 (by decide) (by decide) ra0 rfl fl_X12_16 dX12_copy_1 ?_
  refine lv_iload_n cx.1 cx.2.1 dX12_copy_4 rfl (lv_at hl 2 rfl) ?_
  refine lv_aload_n cx.1 cx.2.1 dX12_copy_5 rfl (lv_at hl 0 rfl) ?_
  refine z_gets cx hp (T := TX12) 12 6 (a0 + 3) rfl zin_12 (by decide) (by decide) ra0 rfl fl_X12_16 dX12_copy_6 ?_
  refine lv_iload_n cx.1 cx.2.1 dX12_copy_9 rfl (lv_at hl 1 rfl) ?_
  refine z_iald cx hp (zs_12_6 a0 (kt_lt ra0 (by decide)) ra0) ra1 dX12_copy_10 hf (fun x1 rx1 hf => ?_)
  refine z_iast cx hp (zs_12_6 a0 (kt_lt ra0 (by decide)) ra0) ra2 rx1 dX12_copy_11 hf (fun h H locs hp hf => ?_)
  refine lv_aload_n cx.1 cx.2.1 dX12_copy_12 rfl (lv_at hl 0 rfl) ?_
  refine z_gets cx hp (T := TX12) 12 7 (a0 + 4) rfl zin_12 (by decide) (by decide) ra0 rfl fl_X12_19 dX12_copy_13 ?_
  refine lv_iload_n cx.1 cx.2.1 dX12_copy_16 rfl (lv_at hl 2 rfl) ?_
  refine lv_aload_n cx.1 cx.2.1 dX12_copy_17 rfl (lv_at hl 0 rfl) ?_
  refine z_gets cx hp (T := TX12) 12 7 (a0 + 4) rfl zin_12 (by decide) (by decide) ra0 rfl fl_X12_19 dX12_copy_18 ?_
  refine lv_iload_n cx.1 cx.2.1 dX12_copy_21 rfl (lv_at hl 1 rfl) ?_
  refine z_iald cx hp (zs_12_7 a0 (kt_lt ra0 (by decide)) ra0) ra1 dX12_copy_22 hf (fun x2 rx2 hf => ?_)
  refine z_iast cx hp (zs_12_7 a0 (kt_lt ra0 (by decide)) ra0) ra2 rx2 dX12_copy_23 hf (fun h H locs hp hf => ?_)
  refine z_iconst cx dX12_copy_24 ?_
  refine lv_istore_n (lv' := [(3, .int (ii 0)), (0, .ref (B + a0)), (1, .int (ii a1)), (2, .int (ii a2))]) cx.1 cx.2.1 dX12_copy_25 rfl hl (by decide) rfl (fun ls hl => ?_)
  refine z_jn hf (fun j => ∀  (h : HF) (H : Heap) (locs : List Loc) (ls : Array Slot), Hp g B s h H locs → lv_has ls 4 [(0, .ref (B + a0)), (1, .int (ii a1)), (2, .int (ii a2))] → j  h = some o → W p l e (rmn 0) s m args below meth c H locs 0 0 Q (F0 m 57 ls [])) ?_ (fun j57 hj57 hf => ?_)
  · intro  h H locs ls  hp hl hf
    refine z_iconst cx dX12_copy_57 ?_
    refine lv_istore_n (lv' := [(3, .int (ii 0)), (0, .ref (B + a0)), (1, .int (ii a1)), (2, .int (ii a2))]) cx.1 cx.2.1 dX12_copy_58 rfl hl (by decide) rfl (fun ls hl => ?_)
    refine z_jn hf (fun j => ∀  (h : HF) (H : Heap) (locs : List Loc) (ls : Array Slot), Hp g B s h H locs → lv_has ls 4 [] → j  h = some o → W p l e (rmn 0) s m args below meth c H locs 0 0 Q (F0 m 96 ls [])) ?_ (fun j96 hj96 hf => ?_)
    · intro  h H locs ls  hp hl hf
      rw [hQ]; exact z_vret cx hp dX12_copy_96 hf
    exact wX12_copy_59 F cx a0 ra0 a1 ra1 a2 ra2 j96 hj96 F 0 h _ _ ls (by decide) hp (lv_sub hl [1, 2, 3, 0] rfl) hf
  exact wX12_copy_26 F cx a0 ra0 a1 ra1 a2 ra2 j57 hj57 F 0 h _ _ ls (by decide) hp (lv_sub hl [1, 2, 3, 0] rfl) hf
theorem dX12_keep_0 : decode cX12_keep 0 = .ok (.aload_n 0, 1) := by decide +kernel
theorem dX12_keep_1 : decode cX12_keep 1 = .ok (.getfield 140, 3) := by decide +kernel
theorem dX12_keep_4 : decode cX12_keep 4 = .ok (.istore_n 2, 1) := by decide +kernel
theorem dX12_keep_5 : decode cX12_keep 5 = .ok (.aload_n 0, 1) := by decide +kernel
theorem dX12_keep_6 : decode cX12_keep 6 = .ok (.getfield 28, 3) := by decide +kernel
theorem dX12_keep_9 : decode cX12_keep 9 = .ok (.iload_n 2, 1) := by decide +kernel
theorem dX12_keep_10 : decode cX12_keep 10 = .ok (.iload_n 1, 1) := by decide +kernel
theorem dX12_keep_11 : decode cX12_keep 11 = .ok (.iastore, 1) := by decide +kernel
theorem dX12_keep_12 : decode cX12_keep 12 = .ok (.aload_n 0, 1) := by decide +kernel
theorem dX12_keep_13 : decode cX12_keep 13 = .ok (.getfield 31, 3) := by decide +kernel
theorem dX12_keep_16 : decode cX12_keep 16 = .ok (.iload_n 2, 1) := by decide +kernel
theorem dX12_keep_17 : decode cX12_keep 17 = .ok (.aload_n 0, 1) := by decide +kernel
theorem dX12_keep_18 : decode cX12_keep 18 = .ok (.getfield 16, 3) := by decide +kernel
theorem dX12_keep_21 : decode cX12_keep 21 = .ok (.iload_n 1, 1) := by decide +kernel
theorem dX12_keep_22 : decode cX12_keep 22 = .ok (.iaload, 1) := by decide +kernel
theorem dX12_keep_23 : decode cX12_keep 23 = .ok (.iastore, 1) := by decide +kernel
theorem dX12_keep_24 : decode cX12_keep 24 = .ok (.aload_n 0, 1) := by decide +kernel
theorem dX12_keep_25 : decode cX12_keep 25 = .ok (.getfield 34, 3) := by decide +kernel
theorem dX12_keep_28 : decode cX12_keep 28 = .ok (.iload_n 2, 1) := by decide +kernel
theorem dX12_keep_29 : decode cX12_keep 29 = .ok (.aload_n 0, 1) := by decide +kernel
theorem dX12_keep_30 : decode cX12_keep 30 = .ok (.getfield 19, 3) := by decide +kernel
theorem dX12_keep_33 : decode cX12_keep 33 = .ok (.iload_n 1, 1) := by decide +kernel
theorem dX12_keep_34 : decode cX12_keep 34 = .ok (.iaload, 1) := by decide +kernel
theorem dX12_keep_35 : decode cX12_keep 35 = .ok (.iastore, 1) := by decide +kernel
theorem dX12_keep_36 : decode cX12_keep 36 = .ok (.iconst 0, 1) := by decide +kernel
theorem dX12_keep_37 : decode cX12_keep 37 = .ok (.istore_n 3, 1) := by decide +kernel
theorem dX12_keep_38 : decode cX12_keep 38 = .ok (.iload_n 3, 1) := by decide +kernel
theorem dX12_keep_39 : decode cX12_keep 39 = .ok (.iconst 4, 1) := by decide +kernel
theorem dX12_keep_40 : decode cX12_keep 40 = .ok (.if_icmp .ge 29, 3) := by decide +kernel
theorem dX12_keep_43 : decode cX12_keep 43 = .ok (.aload_n 0, 1) := by decide +kernel
theorem dX12_keep_44 : decode cX12_keep 44 = .ok (.getfield 37, 3) := by decide +kernel
theorem dX12_keep_47 : decode cX12_keep 47 = .ok (.iconst 4, 1) := by decide +kernel
theorem dX12_keep_48 : decode cX12_keep 48 = .ok (.iload_n 2, 1) := by decide +kernel
theorem dX12_keep_49 : decode cX12_keep 49 = .ok (.imul, 1) := by decide +kernel
theorem dX12_keep_50 : decode cX12_keep 50 = .ok (.iload_n 3, 1) := by decide +kernel
theorem dX12_keep_51 : decode cX12_keep 51 = .ok (.iadd, 1) := by decide +kernel
theorem dX12_keep_52 : decode cX12_keep 52 = .ok (.aload_n 0, 1) := by decide +kernel
theorem dX12_keep_53 : decode cX12_keep 53 = .ok (.getfield 22, 3) := by decide +kernel
theorem dX12_keep_56 : decode cX12_keep 56 = .ok (.iconst 4, 1) := by decide +kernel
theorem dX12_keep_57 : decode cX12_keep 57 = .ok (.iload_n 1, 1) := by decide +kernel
theorem dX12_keep_58 : decode cX12_keep 58 = .ok (.imul, 1) := by decide +kernel
theorem dX12_keep_59 : decode cX12_keep 59 = .ok (.iload_n 3, 1) := by decide +kernel
theorem dX12_keep_60 : decode cX12_keep 60 = .ok (.iadd, 1) := by decide +kernel
theorem dX12_keep_61 : decode cX12_keep 61 = .ok (.iaload, 1) := by decide +kernel
theorem dX12_keep_62 : decode cX12_keep 62 = .ok (.iastore, 1) := by decide +kernel
theorem dX12_keep_63 : decode cX12_keep 63 = .ok (.iinc 3 1, 3) := by decide +kernel
theorem dX12_keep_66 : decode cX12_keep 66 = .ok (.goto (-28), 3) := by decide +kernel
theorem dX12_keep_69 : decode cX12_keep 69 = .ok (.iconst 0, 1) := by decide +kernel
theorem dX12_keep_70 : decode cX12_keep 70 = .ok (.istore_n 3, 1) := by decide +kernel
theorem dX12_keep_71 : decode cX12_keep 71 = .ok (.iload_n 3, 1) := by decide +kernel
theorem dX12_keep_72 : decode cX12_keep 72 = .ok (.sipush 196, 3) := by decide +kernel
theorem dX12_keep_75 : decode cX12_keep 75 = .ok (.if_icmp .ge 33, 3) := by decide +kernel
theorem dX12_keep_78 : decode cX12_keep 78 = .ok (.aload_n 0, 1) := by decide +kernel
theorem dX12_keep_79 : decode cX12_keep 79 = .ok (.getfield 40, 3) := by decide +kernel
theorem dX12_keep_82 : decode cX12_keep 82 = .ok (.sipush 196, 3) := by decide +kernel
theorem dX12_keep_85 : decode cX12_keep 85 = .ok (.iload_n 2, 1) := by decide +kernel
theorem dX12_keep_86 : decode cX12_keep 86 = .ok (.imul, 1) := by decide +kernel
theorem dX12_keep_87 : decode cX12_keep 87 = .ok (.iload_n 3, 1) := by decide +kernel
theorem dX12_keep_88 : decode cX12_keep 88 = .ok (.iadd, 1) := by decide +kernel
theorem dX12_keep_89 : decode cX12_keep 89 = .ok (.aload_n 0, 1) := by decide +kernel
theorem dX12_keep_90 : decode cX12_keep 90 = .ok (.getfield 25, 3) := by decide +kernel
theorem dX12_keep_93 : decode cX12_keep 93 = .ok (.sipush 196, 3) := by decide +kernel
theorem dX12_keep_96 : decode cX12_keep 96 = .ok (.iload_n 1, 1) := by decide +kernel
theorem dX12_keep_97 : decode cX12_keep 97 = .ok (.imul, 1) := by decide +kernel
theorem dX12_keep_98 : decode cX12_keep 98 = .ok (.iload_n 3, 1) := by decide +kernel
theorem dX12_keep_99 : decode cX12_keep 99 = .ok (.iadd, 1) := by decide +kernel
theorem dX12_keep_100 : decode cX12_keep 100 = .ok (.iaload, 1) := by decide +kernel
theorem dX12_keep_101 : decode cX12_keep 101 = .ok (.iastore, 1) := by decide +kernel
theorem dX12_keep_102 : decode cX12_keep 102 = .ok (.iinc 3 1, 3) := by decide +kernel
theorem dX12_keep_105 : decode cX12_keep 105 = .ok (.goto (-34), 3) := by decide +kernel
theorem dX12_keep_108 : decode cX12_keep 108 = .ok (.aload_n 0, 1) := by decide +kernel
theorem dX12_keep_109 : decode cX12_keep 109 = .ok (.iload_n 2, 1) := by decide +kernel
theorem dX12_keep_110 : decode cX12_keep 110 = .ok (.iconst 1, 1) := by decide +kernel
theorem dX12_keep_111 : decode cX12_keep 111 = .ok (.iadd, 1) := by decide +kernel
theorem dX12_keep_112 : decode cX12_keep 112 = .ok (.bipush 16, 2) := by decide +kernel
theorem dX12_keep_114 : decode cX12_keep 114 = .ok (.irem, 1) := by decide +kernel
theorem dX12_keep_115 : decode cX12_keep 115 = .ok (.putfield 140, 3) := by decide +kernel
theorem dX12_keep_118 : decode cX12_keep 118 = .ok (.aload_n 0, 1) := by decide +kernel
theorem dX12_keep_119 : decode cX12_keep 119 = .ok (.aload_n 0, 1) := by decide +kernel
theorem dX12_keep_120 : decode cX12_keep 120 = .ok (.getfield 143, 3) := by decide +kernel
theorem dX12_keep_123 : decode cX12_keep 123 = .ok (.bipush 16, 2) := by decide +kernel
theorem dX12_keep_125 : decode cX12_keep 125 = .ok (.if_icmp .ge 12, 3) := by decide +kernel
theorem dX12_keep_128 : decode cX12_keep 128 = .ok (.aload_n 0, 1) := by decide +kernel
theorem dX12_keep_129 : decode cX12_keep 129 = .ok (.getfield 143, 3) := by decide +kernel
theorem dX12_keep_132 : decode cX12_keep 132 = .ok (.iconst 1, 1) := by decide +kernel
theorem dX12_keep_133 : decode cX12_keep 133 = .ok (.iadd, 1) := by decide +kernel
theorem dX12_keep_134 : decode cX12_keep 134 = .ok (.goto 5, 3) := by decide +kernel
theorem dX12_keep_137 : decode cX12_keep 137 = .ok (.bipush 16, 2) := by decide +kernel
theorem dX12_keep_139 : decode cX12_keep 139 = .ok (.putfield 143, 3) := by decide +kernel
theorem dX12_keep_142 : decode cX12_keep 142 = .ok (.return_, 1) := by decide +kernel
def LX12_keep_71 (F : Nat) (u0 : Nat) (u1 : Int) (u2 : Int) (k108 : Int → HF → RO) : Nat → Int → HF → RO
  | 0, _, _ => none
  | n + 1, v3, h =>
    if v3 < 196 then (
      zrd h (u0 + 6) (wr ((wr (196 * u1)) + v3)) fun x6 =>
      zwr h (u0 + 11) (wr ((wr (196 * u2)) + v3)) x6 fun h =>
      zlet (wr (v3 + 1)) fun x7 =>
      LX12_keep_71 F u0 u1 u2 k108 n x7 h
    ) else (
      k108 u2 h
    )
set_option maxHeartbeats 4000000 in
set_option maxRecDepth 100000 in
theorem wX12_keep_71 {p : Program} {l : Launch} {e : Env} {s : State} {m : MethodId} {args : Array Value} {below : List Frame} {meth : Method} {c : Code} {Q : State → Prop} {g : zG} {B : Nat} {o : Int × HF} (F : Nat) (cx : Cx p s m args meth c cX12_keep 4 RX12 none g B) (u0 : Nat) (ru0 : kt u0 = 15) (u1 : Int) (ru1 : rng u1) (u2 : Int) (ru2 : rng u2) (k108 : Int → HF → RO) (hk108 : ∀ (x2 : Int) (h : HF) (H : Heap) (locs : List Loc) (ls : Array Slot), rng x2 → Hp g B s h H locs → lv_has ls 4 [(0, .ref (B + u0)), (2, .int (ii x2))] → k108 x2 h = some o → W p l e (rmn 0) s m args below meth c H locs 0 0 Q (F0 m 108 ls [])) : ∀ (n : Nat) (v3 : Int) (h : HF) (H : Heap) (locs : List Loc) (ls : Array Slot), rng v3 → Hp g B s h H locs → lv_has ls 4 [(0, .ref (B + u0)), (1, .int (ii u1)), (2, .int (ii u2)), (3, .int (ii v3))] → LX12_keep_71 F u0 u1 u2 k108 n v3 h = some o → W p l e (rmn 0) s m args below meth c H locs 0 0 Q (F0 m 71 ls []) := by
  intro n
  induction n with
  | zero =>
    intro v3 h H locs ls rv3 hp hl hf
    cases hf
  | succ n ih =>
    intro v3 h H locs ls rv3 hp hl hf
    rw [LX12_keep_71] at hf
    refine lv_iload_n cx.1 cx.2.1 dX12_keep_71 rfl (lv_at hl 3 rfl) ?_
    refine z_sipush cx (by decide) dX12_keep_72 ?_
    refine z_icmp_ge cx rv3 (by decide) (tgt := 108) dX12_keep_75 (by decide) hf (fun _ hf => ?_) (fun _ hf => ?_)
    · refine lv_aload_n cx.1 cx.2.1 dX12_keep_78 rfl (lv_at hl 0 rfl) ?_
      refine z_gets cx hp (T := TX12) 12 14 (u0 + 11) rfl zin_12 (by decide) (by decide) ru0 rfl fl_X12_40 dX12_keep_79 ?_
      refine z_sipush cx (by decide) dX12_keep_82 ?_
      refine lv_iload_n cx.1 cx.2.1 dX12_keep_85 rfl (lv_at hl 2 rfl) ?_
      refine z_imul cx dX12_keep_86 ?_
      refine lv_iload_n cx.1 cx.2.1 dX12_keep_87 rfl (lv_at hl 3 rfl) ?_
      refine z_iadd cx dX12_keep_88 ?_
      refine lv_aload_n cx.1 cx.2.1 dX12_keep_89 rfl (lv_at hl 0 rfl) ?_
      refine z_gets cx hp (T := TX12) 12 9 (u0 + 6) rfl zin_12 (by decide) (by decide) ru0 rfl fl_X12_25 dX12_keep_90 ?_
      refine z_sipush cx (by decide) dX12_keep_93 ?_
      refine lv_iload_n cx.1 cx.2.1 dX12_keep_96 rfl (lv_at hl 1 rfl) ?_
      refine z_imul cx dX12_keep_97 ?_
      refine lv_iload_n cx.1 cx.2.1 dX12_keep_98 rfl (lv_at hl 3 rfl) ?_
      refine z_iadd cx dX12_keep_99 ?_
      refine z_iald cx hp (zs_12_9 u0 (kt_lt ru0 (by decide)) ru0) (rng_wr _) dX12_keep_100 hf (fun x6 rx6 hf => ?_)
      refine z_iast cx hp (zs_12_14 u0 (kt_lt ru0 (by decide)) ru0) (rng_wr _) rx6 dX12_keep_101 hf (fun h H locs hp hf => ?_)
      refine z_iinc cx (fun x7 => [(3, .int (ii x7)), (0, .ref (B + u0)), (1, .int (ii u1)), (2, .int (ii u2))]) dX12_keep_102 hl (k := 3) rfl (by decide) (fun _ => rfl) hf (fun x7 rx7 hf ls hl => ?_)
      refine lv_goto (tgt := 71) cx.1 cx.2.1 dX12_keep_105 (by decide) ?_
      exact ih x7 h _ _ ls rx7 hp (lv_sub hl [1, 2, 3, 0] rfl) hf
    · exact hk108 u2 h _ _ ls ru2 hp (lv_sub hl [0, 2] rfl) hf
def LX12_keep_38 (F : Nat) (u0 : Nat) (u1 : Int) (u2 : Int) (k69 : Int → HF → RO) : Nat → Int → HF → RO
  | 0, _, _ => none
  | n + 1, v3, h =>
    if v3 < 4 then (
      zrd h (u0 + 5) (wr ((wr (4 * u1)) + v3)) fun x8 =>
      zwr h (u0 + 10) (wr ((wr (4 * u2)) + v3)) x8 fun h =>
      zlet (wr (v3 + 1)) fun x9 =>
      LX12_keep_38 F u0 u1 u2 k69 n x9 h
    ) else (
      k69 u2 h
    )
set_option maxHeartbeats 4000000 in
set_option maxRecDepth 100000 in
theorem wX12_keep_38 {p : Program} {l : Launch} {e : Env} {s : State} {m : MethodId} {args : Array Value} {below : List Frame} {meth : Method} {c : Code} {Q : State → Prop} {g : zG} {B : Nat} {o : Int × HF} (F : Nat) (cx : Cx p s m args meth c cX12_keep 4 RX12 none g B) (u0 : Nat) (ru0 : kt u0 = 15) (u1 : Int) (ru1 : rng u1) (u2 : Int) (ru2 : rng u2) (k69 : Int → HF → RO) (hk69 : ∀ (x2 : Int) (h : HF) (H : Heap) (locs : List Loc) (ls : Array Slot), rng x2 → Hp g B s h H locs → lv_has ls 4 [(0, .ref (B + u0)), (1, .int (ii u1)), (2, .int (ii x2))] → k69 x2 h = some o → W p l e (rmn 0) s m args below meth c H locs 0 0 Q (F0 m 69 ls [])) : ∀ (n : Nat) (v3 : Int) (h : HF) (H : Heap) (locs : List Loc) (ls : Array Slot), rng v3 → Hp g B s h H locs → lv_has ls 4 [(0, .ref (B + u0)), (1, .int (ii u1)), (2, .int (ii u2)), (3, .int (ii v3))] → LX12_keep_38 F u0 u1 u2 k69 n v3 h = some o → W p l e (rmn 0) s m args below meth c H locs 0 0 Q (F0 m 38 ls []) := by
  intro n
  induction n with
  | zero =>
    intro v3 h H locs ls rv3 hp hl hf
    cases hf
  | succ n ih =>
    intro v3 h H locs ls rv3 hp hl hf
    rw [LX12_keep_38] at hf
    refine lv_iload_n cx.1 cx.2.1 dX12_keep_38 rfl (lv_at hl 3 rfl) ?_
    refine z_iconst cx dX12_keep_39 ?_
    refine z_icmp_ge cx rv3 (by decide) (tgt := 69) dX12_keep_40 (by decide) hf (fun _ hf => ?_) (fun _ hf => ?_)
    · refine lv_aload_n cx.1 cx.2.1 dX12_keep_43 rfl (lv_at hl 0 rfl) ?_
      refine z_gets cx hp (T := TX12) 12 13 (u0 + 10) rfl zin_12 (by decide) (by decide) ru0 rfl fl_X12_37 dX12_keep_44 ?_
      refine z_iconst cx dX12_keep_47 ?_
      refine lv_iload_n cx.1 cx.2.1 dX12_keep_48 rfl (lv_at hl 2 rfl) ?_
      refine z_imul cx dX12_keep_49 ?_
      refine lv_iload_n cx.1 cx.2.1 dX12_keep_50 rfl (lv_at hl 3 rfl) ?_
      refine z_iadd cx dX12_keep_51 ?_
      refine lv_aload_n cx.1 cx.2.1 dX12_keep_52 rfl (lv_at hl 0 rfl) ?_
      refine z_gets cx hp (T := TX12) 12 8 (u0 + 5) rfl zin_12 (by decide) (by decide) ru0 rfl fl_X12_22 dX12_keep_53 ?_
      refine z_iconst cx dX12_keep_56 ?_
      refine lv_iload_n cx.1 cx.2.1 dX12_keep_57 rfl (lv_at hl 1 rfl) ?_
      refine z_imul cx dX12_keep_58 ?_
      refine lv_iload_n cx.1 cx.2.1 dX12_keep_59 rfl (lv_at hl 3 rfl) ?_
      refine z_iadd cx dX12_keep_60 ?_
      refine z_iald cx hp (zs_12_8 u0 (kt_lt ru0 (by decide)) ru0) (rng_wr _) dX12_keep_61 hf (fun x8 rx8 hf => ?_)
      refine z_iast cx hp (zs_12_13 u0 (kt_lt ru0 (by decide)) ru0) (rng_wr _) rx8 dX12_keep_62 hf (fun h H locs hp hf => ?_)
      refine z_iinc cx (fun x9 => [(3, .int (ii x9)), (0, .ref (B + u0)), (1, .int (ii u1)), (2, .int (ii u2))]) dX12_keep_63 hl (k := 3) rfl (by decide) (fun _ => rfl) hf (fun x9 rx9 hf ls hl => ?_)
      refine lv_goto (tgt := 38) cx.1 cx.2.1 dX12_keep_66 (by decide) ?_
      exact ih x9 h _ _ ls rx9 hp (lv_sub hl [1, 2, 3, 0] rfl) hf
    · exact hk69 u2 h _ _ ls ru2 hp (lv_sub hl [0, 1, 2] rfl) hf
def fX12_keep (F : Nat) (a0 : Nat) (a1 : Int) (h : HF) : RO :=
  zgf h a0 15 fun x1 =>
  zwr h (a0 + 7) x1 a1 fun h =>
  zrd h (a0 + 3) a1 fun x2 =>
  zwr h (a0 + 8) x1 x2 fun h =>
  zrd h (a0 + 4) a1 fun x3 =>
  zwr h (a0 + 9) x1 x3 fun h =>
  zjn (fun (x69_2 : Int) (h : HF) => (
    zjn (fun (x108_2 : Int) (h : HF) => (
      zdv 16 <|
      zpf h a0 15 (wrem (wr (x108_2 + 1)) 16) fun h =>
      zgf h a0 16 fun x4 =>
      zjn (fun (y139_0 : Int) (y139_1 : Nat) (h : HF) => (
        zpf h y139_1 16 y139_0 fun h =>
        some (0, h)
      )) fun j139 =>
      if x4 < 16 then (
        zgf h a0 16 fun x5 =>
        j139 (wr (x5 + 1)) a0 h
      ) else (
        j139 16 a0 h
      )
    )) fun j108 =>
    LX12_keep_71 F a0 a1 x69_2 j108 F 0 h
  )) fun j69 =>
  LX12_keep_38 F a0 a1 x1 j69 F 0 h
set_option maxHeartbeats 4000000 in
set_option maxRecDepth 100000 in
theorem mX12_keep (F : Nat) (l : Launch) (g : zG) (B : Nat) (h : HF) (a0 : Nat) (a1 : Int) (ra0 : kt a0 = 15) (ra1 : rng a1) : CTv l g B yX12_keep cX12_keep 4 0 [.ref (B + a0), .int (ii a1)] h (fX12_keep F a0 a1 h) := by
  refine z_enterV (by decide) rfl (Nat.le_of_ble_eq_true rfl) ?_
  intro p e s m args below meth c ls o Q cx hp hl hf hQ
  have hl : lv_has ls 4 [(0, .ref (B + a0)), (1, .int (ii a1))] := hl
  unfold fX12_keep at hf
  refine lv_aload_n cx.1 cx.2.1 dX12_keep_0 rfl (lv_at hl 0 rfl) ?_
  refine z_geti cx hp (T := TX12) 12 15 rfl zin_12 (by decide) (by decide) ra0 rfl fl_X12_140 dX12_keep_1 hf (fun x1 rx1 hf => ?_)
  refine lv_istore_n (lv' := [(2, .int (ii x1)), (0, .ref (B + a0)), (1, .int (ii a1))]) cx.1 cx.2.1 dX12_keep_4 rfl hl (by decide) rfl (fun ls hl => ?_)
  refine lv_aload_n cx.1 cx.2.1 dX12_keep_5 rfl (lv_at hl 1 rfl) ?_
  refine z_gets cx hp (T := TX12) 12 10 (a0 + 7) rfl zin_12 (by decide) (by decide) ra0 rfl fl_X12_28 dX12_keep_6 ?_
  refine lv_iload_n cx.1 cx.2.1 dX12_keep_9 rfl (lv_at hl 0 rfl) ?_
  refine lv_iload_n cx.1 cx.2.1 dX12_keep_10 rfl (lv_at hl 2 rfl) ?_
  refine z_iast cx hp (zs_12_10 a0 (kt_lt ra0 (by decide)) ra0) rx1 ra1 dX12_keep_11 hf (fun h H locs hp hf => ?_)
  refine lv_aload_n cx.1 cx.2.1 dX12_keep_12 rfl (lv_at hl 1 rfl) ?_
  refine z_gets cx hp (T := TX12) 12 11 (a0 + 8) rfl zin_12 (by decide) (by decide) ra0 rfl fl_X12_31 dX12_keep_13 ?_
  refine lv_iload_n cx.1 cx.2.1 dX12_keep_16 rfl (lv_at hl 0 rfl) ?_
  refine lv_aload_n cx.1 cx.2.1 dX12_keep_17 rfl (lv_at hl 1 rfl) ?_
  refine z_gets cx hp (T := TX12) 12 6 (a0 + 3) rfl zin_12 (by decide) (by decide) ra0 rfl fl_X12_16 dX12_keep_18 ?_
  refine lv_iload_n cx.1 cx.2.1 dX12_keep_21 rfl (lv_at hl 2 rfl) ?_
  refine z_iald cx hp (zs_12_6 a0 (kt_lt ra0 (by decide)) ra0) ra1 dX12_keep_22 hf (fun x2 rx2 hf => ?_)
  refine z_iast cx hp (zs_12_11 a0 (kt_lt ra0 (by decide)) ra0) rx1 rx2 dX12_keep_23 hf (fun h H locs hp hf => ?_)
  refine lv_aload_n cx.1 cx.2.1 dX12_keep_24 rfl (lv_at hl 1 rfl) ?_
  refine z_gets cx hp (T := TX12) 12 12 (a0 + 9) rfl zin_12 (by decide) (by decide) ra0 rfl fl_X12_34 dX12_keep_25 ?_
  refine lv_iload_n cx.1 cx.2.1 dX12_keep_28 rfl (lv_at hl 0 rfl) ?_
  refine lv_aload_n cx.1 cx.2.1 dX12_keep_29 rfl (lv_at hl 1 rfl) ?_
  refine z_gets cx hp (T := TX12) 12 7 (a0 + 4) rfl zin_12 (by decide) (by decide) ra0 rfl fl_X12_19 dX12_keep_30 ?_
  refine lv_iload_n cx.1 cx.2.1 dX12_keep_33 rfl (lv_at hl 2 rfl) ?_
  refine z_iald cx hp (zs_12_7 a0 (kt_lt ra0 (by decide)) ra0) ra1 dX12_keep_34 hf (fun x3 rx3 hf => ?_)
  refine z_iast cx hp (zs_12_12 a0 (kt_lt ra0 (by decide)) ra0) rx1 rx3 dX12_keep_35 hf (fun h H locs hp hf => ?_)
  refine z_iconst cx dX12_keep_36 ?_
  refine lv_istore_n (lv' := [(3, .int (ii 0)), (2, .int (ii x1)), (0, .ref (B + a0)), (1, .int (ii a1))]) cx.1 cx.2.1 dX12_keep_37 rfl hl (by decide) rfl (fun ls hl => ?_)
  refine z_jn hf (fun j => ∀ (x69_2 : Int) (h : HF) (H : Heap) (locs : List Loc) (ls : Array Slot), rng x69_2 → Hp g B s h H locs → lv_has ls 4 [(0, .ref (B + a0)), (1, .int (ii a1)), (2, .int (ii x69_2))] → j x69_2 h = some o → W p l e (rmn 0) s m args below meth c H locs 0 0 Q (F0 m 69 ls [])) ?_ (fun j69 hj69 hf => ?_)
  · intro x69_2 h H locs ls rx69_2 hp hl hf
    refine z_iconst cx dX12_keep_69 ?_
    refine lv_istore_n (lv' := [(3, .int (ii 0)), (0, .ref (B + a0)), (1, .int (ii a1)), (2, .int (ii x69_2))]) cx.1 cx.2.1 dX12_keep_70 rfl hl (by decide) rfl (fun ls hl => ?_)
    refine z_jn hf (fun j => ∀ (x108_2 : Int) (h : HF) (H : Heap) (locs : List Loc) (ls : Array Slot), rng x108_2 → Hp g B s h H locs → lv_has ls 4 [(0, .ref (B + a0)), (2, .int (ii x108_2))] → j x108_2 h = some o → W p l e (rmn 0) s m args below meth c H locs 0 0 Q (F0 m 108 ls [])) ?_ (fun j108 hj108 hf => ?_)
    · intro x108_2 h H locs ls rx108_2 hp hl hf
      refine lv_aload_n cx.1 cx.2.1 dX12_keep_108 rfl (lv_at hl 0 rfl) ?_
      refine lv_iload_n cx.1 cx.2.1 dX12_keep_109 rfl (lv_at hl 1 rfl) ?_
      refine z_iconst cx dX12_keep_110 ?_
      refine z_iadd cx dX12_keep_111 ?_
      refine z_bipush cx (by decide) dX12_keep_112 ?_
      refine z_irem cx (rng_wr _) (by decide) dX12_keep_114 hf (fun hf => ?_)
      refine z_puti cx hp (T := TX12) tyX12 tyX12_ok nmX12 12 15 (rng_rem _ _) rfl zin_12 (by decide) (by decide) ra0 rfl rfl rfl fl_X12_140 dX12_keep_115 hf (fun h H locs hp hf => ?_)
      refine lv_aload_n cx.1 cx.2.1 dX12_keep_118 rfl (lv_at hl 0 rfl) ?_
      refine lv_aload_n cx.1 cx.2.1 dX12_keep_119 rfl (lv_at hl 0 rfl) ?_
      refine z_geti cx hp (T := TX12) 12 16 rfl zin_12 (by decide) (by decide) ra0 rfl fl_X12_143 dX12_keep_120 hf (fun x4 rx4 hf => ?_)
      refine z_bipush cx (by decide) dX12_keep_123 ?_
      refine z_jn hf (fun j => ∀ (y139_0 : Int) (y139_1 : Nat) (h : HF) (H : Heap) (locs : List Loc) (ls : Array Slot), rng y139_0 → kt y139_1 = 15 → Hp g B s h H locs → lv_has ls 4 [] → j y139_0 y139_1 h = some o → W p l e (rmn 0) s m args below meth c H locs 0 0 Q (F0 m 139 ls [.int (ii y139_0), .ref (B + y139_1)])) ?_ (fun j139 hj139 hf => ?_)
      · intro y139_0 y139_1 h H locs ls ry139_0 ry139_1 hp hl hf
        refine z_puti cx hp (T := TX12) tyX12 tyX12_ok nmX12 12 16 ry139_0 rfl zin_12 (by decide) (by decide) ry139_1 rfl rfl rfl fl_X12_143 dX12_keep_139 hf (fun h H locs hp hf => ?_)
        rw [hQ]; exact z_vret cx hp dX12_keep_142 hf
      refine z_icmp_ge cx rx4 (by decide) (tgt := 137) dX12_keep_125 (by decide) hf (fun _ hf => ?_) (fun _ hf => ?_)
      · refine lv_aload_n cx.1 cx.2.1 dX12_keep_128 rfl (lv_at hl 0 rfl) ?_
        refine z_geti cx hp (T := TX12) 12 16 rfl zin_12 (by decide) (by decide) ra0 rfl fl_X12_143 dX12_keep_129 hf (fun x5 rx5 hf => ?_)
        refine z_iconst cx dX12_keep_132 ?_
        refine z_iadd cx dX12_keep_133 ?_
        refine lv_goto (tgt := 139) cx.1 cx.2.1 dX12_keep_134 (by decide) ?_
        exact hj139 (wr (x5 + 1)) a0 h _ _ ls (rng_wr _) ra0 hp (lv_sub hl [] rfl) hf
      · refine z_bipush cx (by decide) dX12_keep_137 ?_
        exact hj139 16 a0 h _ _ ls (by decide) ra0 hp (lv_sub hl [] rfl) hf
    exact wX12_keep_71 F cx a0 ra0 a1 ra1 x69_2 rx69_2 j108 hj108 F 0 h _ _ ls (by decide) hp (lv_sub hl [1, 2, 3, 0] rfl) hf
  exact wX12_keep_38 F cx a0 ra0 a1 ra1 x1 rx1 j69 hj69 F 0 h _ _ ls (by decide) hp (lv_sub hl [2, 3, 1, 0] rfl) hf
theorem dX12_areArities_0 : decode cX12_areArities 0 = .ok (.iload_n 1, 1) := by decide +kernel
theorem dX12_areArities_1 : decode cX12_areArities 1 = .ok (.ifCond .lt 14, 3) := by decide +kernel
theorem dX12_areArities_4 : decode cX12_areArities 4 = .ok (.iload_n 1, 1) := by decide +kernel
theorem dX12_areArities_5 : decode cX12_areArities 5 = .ok (.sipush 9999, 3) := by decide +kernel
theorem dX12_areArities_8 : decode cX12_areArities 8 = .ok (.if_icmp .gt 7, 3) := by decide +kernel
theorem dX12_areArities_11 : decode cX12_areArities 11 = .ok (.iconst 1, 1) := by decide +kernel
theorem dX12_areArities_12 : decode cX12_areArities 12 = .ok (.goto 4, 3) := by decide +kernel
theorem dX12_areArities_15 : decode cX12_areArities 15 = .ok (.iconst 0, 1) := by decide +kernel
theorem dX12_areArities_16 : decode cX12_areArities 16 = .ok (.istore_n 2, 1) := by decide +kernel
theorem dX12_areArities_17 : decode cX12_areArities 17 = .ok (.iload_n 1, 1) := by decide +kernel
theorem dX12_areArities_18 : decode cX12_areArities 18 = .ok (.istore_n 3, 1) := by decide +kernel
theorem dX12_areArities_19 : decode cX12_areArities 19 = .ok (.iload_n 3, 1) := by decide +kernel
theorem dX12_areArities_20 : decode cX12_areArities 20 = .ok (.ifCond .le 37, 3) := by decide +kernel
theorem dX12_areArities_23 : decode cX12_areArities 23 = .ok (.iload_n 2, 1) := by decide +kernel
theorem dX12_areArities_24 : decode cX12_areArities 24 = .ok (.ifCond .eq 33, 3) := by decide +kernel
theorem dX12_areArities_27 : decode cX12_areArities 27 = .ok (.iload_n 3, 1) := by decide +kernel
theorem dX12_areArities_28 : decode cX12_areArities 28 = .ok (.bipush 10, 2) := by decide +kernel
theorem dX12_areArities_30 : decode cX12_areArities 30 = .ok (.irem, 1) := by decide +kernel
theorem dX12_areArities_31 : decode cX12_areArities 31 = .ok (.iconst 1, 1) := by decide +kernel
theorem dX12_areArities_32 : decode cX12_areArities 32 = .ok (.if_icmp .lt 15, 3) := by decide +kernel
theorem dX12_areArities_35 : decode cX12_areArities 35 = .ok (.iload_n 3, 1) := by decide +kernel
theorem dX12_areArities_36 : decode cX12_areArities 36 = .ok (.bipush 10, 2) := by decide +kernel
theorem dX12_areArities_38 : decode cX12_areArities 38 = .ok (.irem, 1) := by decide +kernel
theorem dX12_areArities_39 : decode cX12_areArities 39 = .ok (.iconst 3, 1) := by decide +kernel
theorem dX12_areArities_40 : decode cX12_areArities 40 = .ok (.if_icmp .gt 7, 3) := by decide +kernel
theorem dX12_areArities_43 : decode cX12_areArities 43 = .ok (.iconst 1, 1) := by decide +kernel
theorem dX12_areArities_44 : decode cX12_areArities 44 = .ok (.goto 4, 3) := by decide +kernel
theorem dX12_areArities_47 : decode cX12_areArities 47 = .ok (.iconst 0, 1) := by decide +kernel
theorem dX12_areArities_48 : decode cX12_areArities 48 = .ok (.istore_n 2, 1) := by decide +kernel
theorem dX12_areArities_49 : decode cX12_areArities 49 = .ok (.iload_n 3, 1) := by decide +kernel
theorem dX12_areArities_50 : decode cX12_areArities 50 = .ok (.bipush 10, 2) := by decide +kernel
theorem dX12_areArities_52 : decode cX12_areArities 52 = .ok (.idiv, 1) := by decide +kernel
theorem dX12_areArities_53 : decode cX12_areArities 53 = .ok (.istore_n 3, 1) := by decide +kernel
theorem dX12_areArities_54 : decode cX12_areArities 54 = .ok (.goto (-35), 3) := by decide +kernel
theorem dX12_areArities_57 : decode cX12_areArities 57 = .ok (.iload_n 2, 1) := by decide +kernel
theorem dX12_areArities_58 : decode cX12_areArities 58 = .ok (.ireturn, 1) := by decide +kernel
def LX12_areArities_19 (F : Nat) (k57 : Int → HF → RO) : Nat → Int → Int → HF → RO
  | 0, _, _, _ => none
  | n + 1, v2, v3, h =>
    if 0 < v3 then (
      if v2 = 0 then (
        k57 v2 h
      ) else (
        zdv 10 <|
        zjn (fun (x48_3 : Int) (y48_0 : Int) (h : HF) => (
          zdv 10 <|
          zlet (wdiv x48_3 10) fun x1 =>
          LX12_areArities_19 F k57 n y48_0 x1 h
        )) fun j48 =>
        zjn (fun (x47_3 : Int) (h : HF) => (
          j48 x47_3 0 h
        )) fun j47 =>
        if wrem v3 10 < 1 then (
          j47 v3 h
        ) else (
          zdv 10 <|
          if 3 < wrem v3 10 then (
            j47 v3 h
          ) else (
            j48 v3 1 h
          )
        )
      )
    ) else (
      k57 v2 h
    )
set_option maxHeartbeats 4000000 in
set_option maxRecDepth 100000 in
theorem wX12_areArities_19 {p : Program} {l : Launch} {e : Env} {s : State} {m : MethodId} {args : Array Value} {below : List Frame} {meth : Method} {c : Code} {Q : State → Prop} {g : zG} {B : Nat} {o : Int × HF} (F : Nat) (cx : Cx p s m args meth c cX12_areArities 4 RX12 (some .boolean) g B)  (k57 : Int → HF → RO) (hk57 : ∀ (x2 : Int) (h : HF) (H : Heap) (locs : List Loc) (ls : Array Slot), rng x2 → Hp g B s h H locs → lv_has ls 4 [(2, .int (ii x2))] → k57 x2 h = some o → W p l e (rmn 0) s m args below meth c H locs 0 0 Q (F0 m 57 ls [])) : ∀ (n : Nat) (v2 : Int) (v3 : Int) (h : HF) (H : Heap) (locs : List Loc) (ls : Array Slot), rng v2 → rng v3 → Hp g B s h H locs → lv_has ls 4 [(2, .int (ii v2)), (3, .int (ii v3))] → LX12_areArities_19 F k57 n v2 v3 h = some o → W p l e (rmn 0) s m args below meth c H locs 0 0 Q (F0 m 19 ls []) := by
  intro n
  induction n with
  | zero =>
    intro v2 v3 h H locs ls rv2 rv3 hp hl hf
    cases hf
  | succ n ih =>
    intro v2 v3 h H locs ls rv2 rv3 hp hl hf
    rw [LX12_areArities_19] at hf
    refine lv_iload_n cx.1 cx.2.1 dX12_areArities_19 rfl (lv_at hl 1 rfl) ?_
    refine z_if_le cx rv3 (tgt := 57) dX12_areArities_20 (by decide) hf (fun _ hf => ?_) (fun _ hf => ?_)
    · refine lv_iload_n cx.1 cx.2.1 dX12_areArities_23 rfl (lv_at hl 0 rfl) ?_
      refine z_if_eq cx rv2 (tgt := 57) dX12_areArities_24 (by decide) hf (fun _ hf => ?_) (fun _ hf => ?_)
      · exact hk57 v2 h _ _ ls rv2 hp (lv_sub hl [0] rfl) hf
      · refine lv_iload_n cx.1 cx.2.1 dX12_areArities_27 rfl (lv_at hl 1 rfl) ?_
        refine z_bipush cx (by decide) dX12_areArities_28 ?_
        refine z_irem cx rv3 (by decide) dX12_areArities_30 hf (fun hf => ?_)
        refine z_iconst cx dX12_areArities_31 ?_
        refine z_jn hf (fun j => ∀ (x48_3 : Int) (y48_0 : Int) (h : HF) (H : Heap) (locs : List Loc) (ls : Array Slot), rng x48_3 → rng y48_0 → Hp g B s h H locs → lv_has ls 4 [(3, .int (ii x48_3))] → j x48_3 y48_0 h = some o → W p l e (rmn 0) s m args below meth c H locs 0 0 Q (F0 m 48 ls [.int (ii y48_0)])) ?_ (fun j48 hj48 hf => ?_)
        · intro x48_3 y48_0 h H locs ls rx48_3 ry48_0 hp hl hf
          refine lv_istore_n (lv' := [(2, .int (ii y48_0)), (3, .int (ii x48_3))]) cx.1 cx.2.1 dX12_areArities_48 rfl hl (by decide) rfl (fun ls hl => ?_)
          refine lv_iload_n cx.1 cx.2.1 dX12_areArities_49 rfl (lv_at hl 1 rfl) ?_
          refine z_bipush cx (by decide) dX12_areArities_50 ?_
          refine z_idiv cx rx48_3 (by decide) dX12_areArities_52 hf (fun hf => ?_)
          refine z_let (rng_div _ _) hf (fun x1 rx1 hf => ?_)
          refine lv_istore_n (lv' := [(3, .int (ii x1)), (2, .int (ii y48_0))]) cx.1 cx.2.1 dX12_areArities_53 rfl hl (by decide) rfl (fun ls hl => ?_)
          refine lv_goto (tgt := 19) cx.1 cx.2.1 dX12_areArities_54 (by decide) ?_
          exact ih y48_0 x1 h _ _ ls ry48_0 rx1 hp (lv_sub hl [1, 0] rfl) hf
        refine z_jn hf (fun j => ∀ (x47_3 : Int) (h : HF) (H : Heap) (locs : List Loc) (ls : Array Slot), rng x47_3 → Hp g B s h H locs → lv_has ls 4 [(3, .int (ii x47_3))] → j x47_3 h = some o → W p l e (rmn 0) s m args below meth c H locs 0 0 Q (F0 m 47 ls [])) ?_ (fun j47 hj47 hf => ?_)
        · intro x47_3 h H locs ls rx47_3 hp hl hf
          refine z_iconst cx dX12_areArities_47 ?_
          exact hj48 x47_3 0 h _ _ ls rx47_3 (by decide) hp (lv_sub hl [0] rfl) hf
        refine z_icmp_lt cx (rng_rem _ _) (by decide) (tgt := 47) dX12_areArities_32 (by decide) hf (fun _ hf => ?_) (fun _ hf => ?_)
        · exact hj47 v3 h _ _ ls rv3 hp (lv_sub hl [1] rfl) hf
        · refine lv_iload_n cx.1 cx.2.1 dX12_areArities_35 rfl (lv_at hl 1 rfl) ?_
          refine z_bipush cx (by decide) dX12_areArities_36 ?_
          refine z_irem cx rv3 (by decide) dX12_areArities_38 hf (fun hf => ?_)
          refine z_iconst cx dX12_areArities_39 ?_
          refine z_icmp_gt cx (rng_rem _ _) (by decide) (tgt := 47) dX12_areArities_40 (by decide) hf (fun _ hf => ?_) (fun _ hf => ?_)
          · exact hj47 v3 h _ _ ls rv3 hp (lv_sub hl [1] rfl) hf
          · refine z_iconst cx dX12_areArities_43 ?_
            refine lv_goto (tgt := 48) cx.1 cx.2.1 dX12_areArities_44 (by decide) ?_
            exact hj48 v3 1 h _ _ ls rv3 (by decide) hp (lv_sub hl [1] rfl) hf
    · exact hk57 v2 h _ _ ls rv2 hp (lv_sub hl [0] rfl) hf
def fX12_areArities (F : Nat) (a0 : Nat) (a1 : Int) (h : HF) : RO :=
  zjn (fun (y16_0 : Int) (h : HF) => (
    zjn (fun (x57_2 : Int) (h : HF) => (
      zrz x57_2 h
    )) fun j57 =>
    LX12_areArities_19 F  j57 F y16_0 a1 h
  )) fun j16 =>
  zjn (fun  (h : HF) => (
    j16 0 h
  )) fun j15 =>
  if a1 < 0 then (
    j15  h
  ) else (
    if 9999 < a1 then (
      j15  h
    ) else (
      j16 1 h
    )
  )
set_option maxHeartbeats 4000000 in
set_option maxRecDepth 100000 in
theorem mX12_areArities (F : Nat) (l : Launch) (g : zG) (B : Nat) (h : HF) (a0 : Nat) (a1 : Int) (ra0 : kt a0 = 15) (ra1 : rng a1) : CTi l g B yX12_areArities cX12_areArities 4 (some .boolean) 0 [.ref (B + a0), .int (ii a1)] h (fX12_areArities F a0 a1 h) := by
  refine z_enterI (by decide) rfl (Nat.le_of_ble_eq_true rfl) ?_
  intro p e s m args below meth c ls o Q cx hp hl hf hQ
  have hl : lv_has ls 4 [(0, .ref (B + a0)), (1, .int (ii a1))] := hl
  unfold fX12_areArities at hf
  refine lv_iload_n cx.1 cx.2.1 dX12_areArities_0 rfl (lv_at hl 1 rfl) ?_
  refine z_jn hf (fun j => ∀ (y16_0 : Int) (h : HF) (H : Heap) (locs : List Loc) (ls : Array Slot), rng y16_0 → Hp g B s h H locs → lv_has ls 4 [(1, .int (ii a1))] → j y16_0 h = some o → W p l e (rmn 0) s m args below meth c H locs 0 0 Q (F0 m 16 ls [.int (ii y16_0)])) ?_ (fun j16 hj16 hf => ?_)
  · intro y16_0 h H locs ls ry16_0 hp hl hf
    refine lv_istore_n (lv' := [(2, .int (ii y16_0)), (1, .int (ii a1))]) cx.1 cx.2.1 dX12_areArities_16 rfl hl (by decide) rfl (fun ls hl => ?_)
    refine lv_iload_n cx.1 cx.2.1 dX12_areArities_17 rfl (lv_at hl 1 rfl) ?_
    refine lv_istore_n (lv' := [(3, .int (ii a1)), (2, .int (ii y16_0)), (1, .int (ii a1))]) cx.1 cx.2.1 dX12_areArities_18 rfl hl (by decide) rfl (fun ls hl => ?_)
    refine z_jn hf (fun j => ∀ (x57_2 : Int) (h : HF) (H : Heap) (locs : List Loc) (ls : Array Slot), rng x57_2 → Hp g B s h H locs → lv_has ls 4 [(2, .int (ii x57_2))] → j x57_2 h = some o → W p l e (rmn 0) s m args below meth c H locs 0 0 Q (F0 m 57 ls [])) ?_ (fun j57 hj57 hf => ?_)
    · intro x57_2 h H locs ls rx57_2 hp hl hf
      refine lv_iload_n cx.1 cx.2.1 dX12_areArities_57 rfl (lv_at hl 0 rfl) ?_
      rw [hQ]; exact z_zret cx hp dX12_areArities_58 hf
    exact wX12_areArities_19 F cx  j57 hj57 F y16_0 a1 h _ _ ls ry16_0 ra1 hp (lv_sub hl [1, 0] rfl) hf
  refine z_jn hf (fun j => ∀  (h : HF) (H : Heap) (locs : List Loc) (ls : Array Slot), Hp g B s h H locs → lv_has ls 4 [(1, .int (ii a1))] → j  h = some o → W p l e (rmn 0) s m args below meth c H locs 0 0 Q (F0 m 15 ls [])) ?_ (fun j15 hj15 hf => ?_)
  · intro  h H locs ls  hp hl hf
    refine z_iconst cx dX12_areArities_15 ?_
    exact hj16 0 h _ _ ls (by decide) hp (lv_sub hl [0] rfl) hf
  refine z_if_lt cx ra1 (tgt := 15) dX12_areArities_1 (by decide) hf (fun _ hf => ?_) (fun _ hf => ?_)
  · exact hj15  h _ _ ls  hp (lv_sub hl [1] rfl) hf
  · refine lv_iload_n cx.1 cx.2.1 dX12_areArities_4 rfl (lv_at hl 1 rfl) ?_
    refine z_sipush cx (by decide) dX12_areArities_5 ?_
    refine z_icmp_gt cx ra1 (by decide) (tgt := 15) dX12_areArities_8 (by decide) hf (fun _ hf => ?_) (fun _ hf => ?_)
    · exact hj15  h _ _ ls  hp (lv_sub hl [1] rfl) hf
    · refine z_iconst cx dX12_areArities_11 ?_
      refine lv_goto (tgt := 16) cx.1 cx.2.1 dX12_areArities_12 (by decide) ?_
      exact hj16 1 h _ _ ls (by decide) hp (lv_sub hl [1] rfl) hf
theorem dX12_blank_0 : decode cX12_blank 0 = .ok (.aload_n 0, 1) := by decide +kernel
theorem dX12_blank_1 : decode cX12_blank 1 = .ok (.getfield 16, 3) := by decide +kernel
theorem dX12_blank_4 : decode cX12_blank 4 = .ok (.iload_n 1, 1) := by decide +kernel
theorem dX12_blank_5 : decode cX12_blank 5 = .ok (.iload_n 2, 1) := by decide +kernel
theorem dX12_blank_6 : decode cX12_blank 6 = .ok (.iastore, 1) := by decide +kernel
theorem dX12_blank_7 : decode cX12_blank 7 = .ok (.aload_n 0, 1) := by decide +kernel
theorem dX12_blank_8 : decode cX12_blank 8 = .ok (.getfield 19, 3) := by decide +kernel
theorem dX12_blank_11 : decode cX12_blank 11 = .ok (.iload_n 1, 1) := by decide +kernel
theorem dX12_blank_12 : decode cX12_blank 12 = .ok (.iconst 0, 1) := by decide +kernel
theorem dX12_blank_13 : decode cX12_blank 13 = .ok (.iastore, 1) := by decide +kernel
theorem dX12_blank_14 : decode cX12_blank 14 = .ok (.iload_n 3, 1) := by decide +kernel
theorem dX12_blank_15 : decode cX12_blank 15 = .ok (.istore 4, 2) := by decide +kernel
theorem dX12_blank_17 : decode cX12_blank 17 = .ok (.iload 4, 2) := by decide +kernel
theorem dX12_blank_19 : decode cX12_blank 19 = .ok (.ifCond .le 45, 3) := by decide +kernel
theorem dX12_blank_22 : decode cX12_blank 22 = .ok (.aload_n 0, 1) := by decide +kernel
theorem dX12_blank_23 : decode cX12_blank 23 = .ok (.getfield 22, 3) := by decide +kernel
theorem dX12_blank_26 : decode cX12_blank 26 = .ok (.iconst 4, 1) := by decide +kernel
theorem dX12_blank_27 : decode cX12_blank 27 = .ok (.iload_n 1, 1) := by decide +kernel
theorem dX12_blank_28 : decode cX12_blank 28 = .ok (.imul, 1) := by decide +kernel
theorem dX12_blank_29 : decode cX12_blank 29 = .ok (.aload_n 0, 1) := by decide +kernel
theorem dX12_blank_30 : decode cX12_blank 30 = .ok (.getfield 19, 3) := by decide +kernel
theorem dX12_blank_33 : decode cX12_blank 33 = .ok (.iload_n 1, 1) := by decide +kernel
theorem dX12_blank_34 : decode cX12_blank 34 = .ok (.iaload, 1) := by decide +kernel
theorem dX12_blank_35 : decode cX12_blank 35 = .ok (.iadd, 1) := by decide +kernel
theorem dX12_blank_36 : decode cX12_blank 36 = .ok (.iload 4, 2) := by decide +kernel
theorem dX12_blank_38 : decode cX12_blank 38 = .ok (.bipush 10, 2) := by decide +kernel
theorem dX12_blank_40 : decode cX12_blank 40 = .ok (.irem, 1) := by decide +kernel
theorem dX12_blank_41 : decode cX12_blank 41 = .ok (.iconst 1, 1) := by decide +kernel
theorem dX12_blank_42 : decode cX12_blank 42 = .ok (.isub, 1) := by decide +kernel
theorem dX12_blank_43 : decode cX12_blank 43 = .ok (.iastore, 1) := by decide +kernel
theorem dX12_blank_44 : decode cX12_blank 44 = .ok (.aload_n 0, 1) := by decide +kernel
theorem dX12_blank_45 : decode cX12_blank 45 = .ok (.getfield 19, 3) := by decide +kernel
theorem dX12_blank_48 : decode cX12_blank 48 = .ok (.iload_n 1, 1) := by decide +kernel
theorem dX12_blank_49 : decode cX12_blank 49 = .ok (.dup2, 1) := by decide +kernel
theorem dX12_blank_50 : decode cX12_blank 50 = .ok (.iaload, 1) := by decide +kernel
theorem dX12_blank_51 : decode cX12_blank 51 = .ok (.iconst 1, 1) := by decide +kernel
theorem dX12_blank_52 : decode cX12_blank 52 = .ok (.iadd, 1) := by decide +kernel
theorem dX12_blank_53 : decode cX12_blank 53 = .ok (.iastore, 1) := by decide +kernel
theorem dX12_blank_54 : decode cX12_blank 54 = .ok (.iload 4, 2) := by decide +kernel
theorem dX12_blank_56 : decode cX12_blank 56 = .ok (.bipush 10, 2) := by decide +kernel
theorem dX12_blank_58 : decode cX12_blank 58 = .ok (.idiv, 1) := by decide +kernel
theorem dX12_blank_59 : decode cX12_blank 59 = .ok (.istore 4, 2) := by decide +kernel
theorem dX12_blank_61 : decode cX12_blank 61 = .ok (.goto (-44), 3) := by decide +kernel
theorem dX12_blank_64 : decode cX12_blank 64 = .ok (.iconst 0, 1) := by decide +kernel
theorem dX12_blank_65 : decode cX12_blank 65 = .ok (.istore 4, 2) := by decide +kernel
theorem dX12_blank_67 : decode cX12_blank 67 = .ok (.iload 4, 2) := by decide +kernel
theorem dX12_blank_69 : decode cX12_blank 69 = .ok (.sipush 196, 3) := by decide +kernel
theorem dX12_blank_72 : decode cX12_blank 72 = .ok (.if_icmp .ge 23, 3) := by decide +kernel
theorem dX12_blank_75 : decode cX12_blank 75 = .ok (.aload_n 0, 1) := by decide +kernel
theorem dX12_blank_76 : decode cX12_blank 76 = .ok (.getfield 25, 3) := by decide +kernel
theorem dX12_blank_79 : decode cX12_blank 79 = .ok (.sipush 196, 3) := by decide +kernel
theorem dX12_blank_82 : decode cX12_blank 82 = .ok (.iload_n 1, 1) := by decide +kernel
theorem dX12_blank_83 : decode cX12_blank 83 = .ok (.imul, 1) := by decide +kernel
theorem dX12_blank_84 : decode cX12_blank 84 = .ok (.iload 4, 2) := by decide +kernel
theorem dX12_blank_86 : decode cX12_blank 86 = .ok (.iadd, 1) := by decide +kernel
theorem dX12_blank_87 : decode cX12_blank 87 = .ok (.iconst 0, 1) := by decide +kernel
theorem dX12_blank_88 : decode cX12_blank 88 = .ok (.iastore, 1) := by decide +kernel
theorem dX12_blank_89 : decode cX12_blank 89 = .ok (.iinc 4 1, 3) := by decide +kernel
theorem dX12_blank_92 : decode cX12_blank 92 = .ok (.goto (-25), 3) := by decide +kernel
theorem dX12_blank_95 : decode cX12_blank 95 = .ok (.return_, 1) := by decide +kernel
def LX12_blank_67 (F : Nat) (u0 : Nat) (u1 : Int) (k95 : HF → RO) : Nat → Int → HF → RO
  | 0, _, _ => none
  | n + 1, v4, h =>
    if v4 < 196 then (
      zwr h (u0 + 6) (wr ((wr (196 * u1)) + v4)) 0 fun h =>
      zlet (wr (v4 + 1)) fun x1 =>
      LX12_blank_67 F u0 u1 k95 n x1 h
    ) else (
      k95  h
    )
set_option maxHeartbeats 4000000 in
set_option maxRecDepth 100000 in
theorem wX12_blank_67 {p : Program} {l : Launch} {e : Env} {s : State} {m : MethodId} {args : Array Value} {below : List Frame} {meth : Method} {c : Code} {Q : State → Prop} {g : zG} {B : Nat} {o : Int × HF} (F : Nat) (cx : Cx p s m args meth c cX12_blank 5 RX12 none g B) (u0 : Nat) (ru0 : kt u0 = 15) (u1 : Int) (ru1 : rng u1) (k95 : HF → RO) (hk95 : ∀  (h : HF) (H : Heap) (locs : List Loc) (ls : Array Slot), Hp g B s h H locs → lv_has ls 5 [] → k95  h = some o → W p l e (rmn 0) s m args below meth c H locs 0 0 Q (F0 m 95 ls [])) : ∀ (n : Nat) (v4 : Int) (h : HF) (H : Heap) (locs : List Loc) (ls : Array Slot), rng v4 → Hp g B s h H locs → lv_has ls 5 [(0, .ref (B + u0)), (1, .int (ii u1)), (4, .int (ii v4))] → LX12_blank_67 F u0 u1 k95 n v4 h = some o → W p l e (rmn 0) s m args below meth c H locs 0 0 Q (F0 m 67 ls []) := by
  intro n
  induction n with
  | zero =>
    intro v4 h H locs ls rv4 hp hl hf
    cases hf
  | succ n ih =>
    intro v4 h H locs ls rv4 hp hl hf
    rw [LX12_blank_67] at hf
    refine lv_iload cx.1 cx.2.1 dX12_blank_67 (lv_at hl 2 rfl) ?_
    refine z_sipush cx (by decide) dX12_blank_69 ?_
    refine z_icmp_ge cx rv4 (by decide) (tgt := 95) dX12_blank_72 (by decide) hf (fun _ hf => ?_) (fun _ hf => ?_)
    · refine lv_aload_n cx.1 cx.2.1 dX12_blank_75 rfl (lv_at hl 0 rfl) ?_
      refine z_gets cx hp (T := TX12) 12 9 (u0 + 6) rfl zin_12 (by decide) (by decide) ru0 rfl fl_X12_25 dX12_blank_76 ?_
      refine z_sipush cx (by decide) dX12_blank_79 ?_
      refine lv_iload_n cx.1 cx.2.1 dX12_blank_82 rfl (lv_at hl 1 rfl) ?_
      refine z_imul cx dX12_blank_83 ?_
      refine lv_iload cx.1 cx.2.1 dX12_blank_84 (lv_at hl 2 rfl) ?_
      refine z_iadd cx dX12_blank_86 ?_
      refine z_iconst cx dX12_blank_87 ?_
      refine z_iast cx hp (zs_12_9 u0 (kt_lt ru0 (by decide)) ru0) (rng_wr _) (by decide) dX12_blank_88 hf (fun h H locs hp hf => ?_)
      refine z_iinc cx (fun x1 => [(4, .int (ii x1)), (0, .ref (B + u0)), (1, .int (ii u1))]) dX12_blank_89 hl (k := 2) rfl (by decide) (fun _ => rfl) hf (fun x1 rx1 hf ls hl => ?_)
      refine lv_goto (tgt := 67) cx.1 cx.2.1 dX12_blank_92 (by decide) ?_
      exact ih x1 h _ _ ls rx1 hp (lv_sub hl [1, 2, 0] rfl) hf
    · exact hk95  h _ _ ls  hp (lv_sub hl [] rfl) hf
def LX12_blank_17 (F : Nat) (u0 : Nat) (u1 : Int) (k64 : HF → RO) : Nat → Int → HF → RO
  | 0, _, _ => none
  | n + 1, v4, h =>
    if 0 < v4 then (
      zrd h (u0 + 4) u1 fun x2 =>
      zdv 10 <|
      zwr h (u0 + 5) (wr ((wr (4 * u1)) + x2)) (wr ((wrem v4 10) - 1)) fun h =>
      zrd h (u0 + 4) u1 fun x3 =>
      zwr h (u0 + 4) u1 (wr (x3 + 1)) fun h =>
      zdv 10 <|
      zlet (wdiv v4 10) fun x4 =>
      LX12_blank_17 F u0 u1 k64 n x4 h
    ) else (
      k64  h
    )
set_option maxHeartbeats 4000000 in
set_option maxRecDepth 100000 in
theorem wX12_blank_17 {p : Program} {l : Launch} {e : Env} {s : State} {m : MethodId} {args : Array Value} {below : List Frame} {meth : Method} {c : Code} {Q : State → Prop} {g : zG} {B : Nat} {o : Int × HF} (F : Nat) (cx : Cx p s m args meth c cX12_blank 5 RX12 none g B) (u0 : Nat) (ru0 : kt u0 = 15) (u1 : Int) (ru1 : rng u1) (k64 : HF → RO) (hk64 : ∀  (h : HF) (H : Heap) (locs : List Loc) (ls : Array Slot), Hp g B s h H locs → lv_has ls 5 [(0, .ref (B + u0)), (1, .int (ii u1))] → k64  h = some o → W p l e (rmn 0) s m args below meth c H locs 0 0 Q (F0 m 64 ls [])) : ∀ (n : Nat) (v4 : Int) (h : HF) (H : Heap) (locs : List Loc) (ls : Array Slot), rng v4 → Hp g B s h H locs → lv_has ls 5 [(0, .ref (B + u0)), (1, .int (ii u1)), (4, .int (ii v4))] → LX12_blank_17 F u0 u1 k64 n v4 h = some o → W p l e (rmn 0) s m args below meth c H locs 0 0 Q (F0 m 17 ls []) := by
  intro n
  induction n with
  | zero =>
    intro v4 h H locs ls rv4 hp hl hf
    cases hf
  | succ n ih =>
    intro v4 h H locs ls rv4 hp hl hf
    rw [LX12_blank_17] at hf
    refine lv_iload cx.1 cx.2.1 dX12_blank_17 (lv_at hl 2 rfl) ?_
    refine z_if_le cx rv4 (tgt := 64) dX12_blank_19 (by decide) hf (fun _ hf => ?_) (fun _ hf => ?_)
    · refine lv_aload_n cx.1 cx.2.1 dX12_blank_22 rfl (lv_at hl 0 rfl) ?_
      refine z_gets cx hp (T := TX12) 12 8 (u0 + 5) rfl zin_12 (by decide) (by decide) ru0 rfl fl_X12_22 dX12_blank_23 ?_
      refine z_iconst cx dX12_blank_26 ?_
      refine lv_iload_n cx.1 cx.2.1 dX12_blank_27 rfl (lv_at hl 1 rfl) ?_
      refine z_imul cx dX12_blank_28 ?_
      refine lv_aload_n cx.1 cx.2.1 dX12_blank_29 rfl (lv_at hl 0 rfl) ?_
      refine z_gets cx hp (T := TX12) 12 7 (u0 + 4) rfl zin_12 (by decide) (by decide) ru0 rfl fl_X12_19 dX12_blank_30 ?_
      refine lv_iload_n cx.1 cx.2.1 dX12_blank_33 rfl (lv_at hl 1 rfl) ?_
      refine z_iald cx hp (zs_12_7 u0 (kt_lt ru0 (by decide)) ru0) ru1 dX12_blank_34 hf (fun x2 rx2 hf => ?_)
      refine z_iadd cx dX12_blank_35 ?_
      refine lv_iload cx.1 cx.2.1 dX12_blank_36 (lv_at hl 2 rfl) ?_
      refine z_bipush cx (by decide) dX12_blank_38 ?_
      refine z_irem cx rv4 (by decide) dX12_blank_40 hf (fun hf => ?_)
      refine z_iconst cx dX12_blank_41 ?_
      refine z_isub cx dX12_blank_42 ?_
      refine z_iast cx hp (zs_12_8 u0 (kt_lt ru0 (by decide)) ru0) (rng_wr _) (rng_wr _) dX12_blank_43 hf (fun h H locs hp hf => ?_)
      refine lv_aload_n cx.1 cx.2.1 dX12_blank_44 rfl (lv_at hl 0 rfl) ?_
      refine z_gets cx hp (T := TX12) 12 7 (u0 + 4) rfl zin_12 (by decide) (by decide) ru0 rfl fl_X12_19 dX12_blank_45 ?_
      refine lv_iload_n cx.1 cx.2.1 dX12_blank_48 rfl (lv_at hl 1 rfl) ?_
      refine lv_dup2_11 cx.1 cx.2.1 dX12_blank_49 rfl rfl ?_
      refine z_iald cx hp (zs_12_7 u0 (kt_lt ru0 (by decide)) ru0) ru1 dX12_blank_50 hf (fun x3 rx3 hf => ?_)
      refine z_iconst cx dX12_blank_51 ?_
      refine z_iadd cx dX12_blank_52 ?_
      refine z_iast cx hp (zs_12_7 u0 (kt_lt ru0 (by decide)) ru0) ru1 (rng_wr _) dX12_blank_53 hf (fun h H locs hp hf => ?_)
      refine lv_iload cx.1 cx.2.1 dX12_blank_54 (lv_at hl 2 rfl) ?_
      refine z_bipush cx (by decide) dX12_blank_56 ?_
      refine z_idiv cx rv4 (by decide) dX12_blank_58 hf (fun hf => ?_)
      refine z_let (rng_div _ _) hf (fun x4 rx4 hf => ?_)
      refine lv_istore (lv' := [(4, .int (ii x4)), (0, .ref (B + u0)), (1, .int (ii u1))]) cx.1 cx.2.1 dX12_blank_59 hl (by decide) rfl (fun ls hl => ?_)
      refine lv_goto (tgt := 17) cx.1 cx.2.1 dX12_blank_61 (by decide) ?_
      exact ih x4 h _ _ ls rx4 hp (lv_sub hl [1, 2, 0] rfl) hf
    · exact hk64  h _ _ ls  hp (lv_sub hl [0, 1] rfl) hf
def fX12_blank (F : Nat) (a0 : Nat) (a1 : Int) (a2 : Int) (a3 : Int) (h : HF) : RO :=
  zwr h (a0 + 3) a1 a2 fun h =>
  zwr h (a0 + 4) a1 0 fun h =>
  zjn (fun  (h : HF) => (
    zjn (fun  (h : HF) => (
      some (0, h)
    )) fun j95 =>
    LX12_blank_67 F a0 a1 j95 F 0 h
  )) fun j64 =>
  LX12_blank_17 F a0 a1 j64 F a3 h
set_option maxHeartbeats 4000000 in
set_option maxRecDepth 100000 in
theorem mX12_blank (F : Nat) (l : Launch) (g : zG) (B : Nat) (h : HF) (a0 : Nat) (a1 : Int) (a2 : Int) (a3 : Int) (ra0 : kt a0 = 15) (ra1 : rng a1) (ra2 : rng a2) (ra3 : rng a3) : CTv l g B yX12_blank cX12_blank 5 0 [.ref (B + a0), .int (ii a1), .int (ii a2), .int (ii a3)] h (fX12_blank F a0 a1 a2 a3 h) := by
  refine z_enterV (by decide) rfl (Nat.le_of_ble_eq_true rfl) ?_
  intro p e s m args below meth c ls o Q cx hp hl hf hQ
  have hl : lv_has ls 5 [(0, .ref (B + a0)), (1, .int (ii a1)), (2, .int (ii a2)), (3, .int (ii a3))] := hl
  unfold fX12_blank at hf
  refine lv_aload_n cx.1 cx.2.1 dX12_blank_0 rfl (lv_at hl 0 rfl) ?_
  refine z_gets cx hp (T := TX12) 12 6 (a0 + 3) rfl zin_12 (by decide) (by decide) ra0 rfl fl_X12_16 dX12_blank_1 ?_
  refine lv_iload_n cx.1 cx.2.1 dX12_blank_4 rfl (lv_at hl 1 rfl) ?_
  refine lv_iload_n cx.1 cx.2.1 dX12_blank_5 rfl (lv_at hl 2 rfl) ?_
  refine z_iast cx hp (zs_12_6 a0 (kt_lt ra0 (by decide)) ra0) ra1 ra2 dX12_blank_6 hf (fun h H locs hp hf => ?_)
  refine lv_aload_n cx.1 cx.2.1 dX12_blank_7 rfl (lv_at hl 0 rfl) ?_
  refine z_gets cx hp (T := TX12) 12 7 (a0 + 4) rfl zin_12 (by decide) (by decide) ra0 rfl fl_X12_19 dX12_blank_8 ?_
  refine lv_iload_n cx.1 cx.2.1 dX12_blank_11 rfl (lv_at hl 1 rfl) ?_
  refine z_iconst cx dX12_blank_12 ?_
  refine z_iast cx hp (zs_12_7 a0 (kt_lt ra0 (by decide)) ra0) ra1 (by decide) dX12_blank_13 hf (fun h H locs hp hf => ?_)
  refine lv_iload_n cx.1 cx.2.1 dX12_blank_14 rfl (lv_at hl 3 rfl) ?_
  refine lv_istore (lv' := [(4, .int (ii a3)), (0, .ref (B + a0)), (1, .int (ii a1)), (2, .int (ii a2)), (3, .int (ii a3))]) cx.1 cx.2.1 dX12_blank_15 hl (by decide) rfl (fun ls hl => ?_)
  refine z_jn hf (fun j => ∀  (h : HF) (H : Heap) (locs : List Loc) (ls : Array Slot), Hp g B s h H locs → lv_has ls 5 [(0, .ref (B + a0)), (1, .int (ii a1))] → j  h = some o → W p l e (rmn 0) s m args below meth c H locs 0 0 Q (F0 m 64 ls [])) ?_ (fun j64 hj64 hf => ?_)
  · intro  h H locs ls  hp hl hf
    refine z_iconst cx dX12_blank_64 ?_
    refine lv_istore (lv' := [(4, .int (ii 0)), (0, .ref (B + a0)), (1, .int (ii a1))]) cx.1 cx.2.1 dX12_blank_65 hl (by decide) rfl (fun ls hl => ?_)
    refine z_jn hf (fun j => ∀  (h : HF) (H : Heap) (locs : List Loc) (ls : Array Slot), Hp g B s h H locs → lv_has ls 5 [] → j  h = some o → W p l e (rmn 0) s m args below meth c H locs 0 0 Q (F0 m 95 ls [])) ?_ (fun j95 hj95 hf => ?_)
    · intro  h H locs ls  hp hl hf
      rw [hQ]; exact z_vret cx hp dX12_blank_95 hf
    exact wX12_blank_67 F cx a0 ra0 a1 ra1 j95 hj95 F 0 h _ _ ls (by decide) hp (lv_sub hl [1, 2, 0] rfl) hf
  exact wX12_blank_17 F cx a0 ra0 a1 ra1 j64 hj64 F a3 h _ _ ls ra3 hp (lv_sub hl [1, 2, 0] rfl) hf
theorem dX12_make_0 : decode cX12_make 0 = .ok (.aload_n 0, 1) := by decide +kernel
theorem dX12_make_1 : decode cX12_make 1 = .ok (.iconst 0, 1) := by decide +kernel
theorem dX12_make_2 : decode cX12_make 2 = .ok (.putfield 115, 3) := by decide +kernel
theorem dX12_make_5 : decode cX12_make 5 = .ok (.aload_n 0, 1) := by decide +kernel
theorem dX12_make_6 : decode cX12_make 6 = .ok (.iload_n 1, 1) := by decide +kernel
theorem dX12_make_7 : decode cX12_make 7 = .ok (.invokevirtual 146, 3) := by decide +kernel
theorem dX12_make_10 : decode cX12_make 10 = .ok (.ifCond .eq 22, 3) := by decide +kernel
theorem dX12_make_13 : decode cX12_make 13 = .ok (.iload_n 2, 1) := by decide +kernel
theorem dX12_make_14 : decode cX12_make 14 = .ok (.iconst 1, 1) := by decide +kernel
theorem dX12_make_15 : decode cX12_make 15 = .ok (.if_icmp .lt 17, 3) := by decide +kernel
theorem dX12_make_18 : decode cX12_make 18 = .ok (.iload_n 2, 1) := by decide +kernel
theorem dX12_make_19 : decode cX12_make 19 = .ok (.bipush 7, 2) := by decide +kernel
theorem dX12_make_21 : decode cX12_make 21 = .ok (.if_icmp .gt 11, 3) := by decide +kernel
theorem dX12_make_24 : decode cX12_make 24 = .ok (.aload_n 0, 1) := by decide +kernel
theorem dX12_make_25 : decode cX12_make 25 = .ok (.iload_n 3, 1) := by decide +kernel
theorem dX12_make_26 : decode cX12_make 26 = .ok (.invokevirtual 150, 3) := by decide +kernel
theorem dX12_make_29 : decode cX12_make 29 = .ok (.ifCond .ne 6, 3) := by decide +kernel
theorem dX12_make_35 : decode cX12_make 35 = .ok (.aload_n 0, 1) := by decide +kernel
theorem dX12_make_36 : decode cX12_make 36 = .ok (.iload_n 1, 1) := by decide +kernel
theorem dX12_make_37 : decode cX12_make 37 = .ok (.invokevirtual 153, 3) := by decide +kernel
theorem dX12_make_40 : decode cX12_make 40 = .ok (.aload_n 0, 1) := by decide +kernel
theorem dX12_make_41 : decode cX12_make 41 = .ok (.iload_n 1, 1) := by decide +kernel
theorem dX12_make_42 : decode cX12_make 42 = .ok (.iload_n 2, 1) := by decide +kernel
theorem dX12_make_43 : decode cX12_make 43 = .ok (.iload_n 3, 1) := by decide +kernel
theorem dX12_make_44 : decode cX12_make 44 = .ok (.invokevirtual 156, 3) := by decide +kernel
theorem dX12_make_47 : decode cX12_make 47 = .ok (.aload_n 0, 1) := by decide +kernel
theorem dX12_make_48 : decode cX12_make 48 = .ok (.iload_n 1, 1) := by decide +kernel
theorem dX12_make_49 : decode cX12_make 49 = .ok (.invokevirtual 160, 3) := by decide +kernel
theorem dX12_make_52 : decode cX12_make 52 = .ok (.ireturn, 1) := by decide +kernel
theorem dX12_make_32 : decode cX12_make 32 = .ok (.bipush (-3), 2) := by decide +kernel
theorem dX12_make_34 : decode cX12_make 34 = .ok (.ireturn, 1) := by decide +kernel
def fX12_make (F : Nat) (a0 : Nat) (a1 : Int) (a2 : Int) (a3 : Int) (h : HF) : RO :=
  zpf h a0 0 0 fun h =>
  zbd (fX12_isDrawer F a0 a1 h) fun r1 h =>
  zjn (fun  (h : HF) => (
    some ((-3), h)
  )) fun j32 =>
  if r1 = 0 then (
    j32  h
  ) else (
    if a2 < 1 then (
      j32  h
    ) else (
      if 7 < a2 then (
        j32  h
      ) else (
        zbd (fX12_areArities F a0 a3 h) fun r2 h =>
        if r2 = 0 then (
          j32  h
        ) else (
          zbd (fX12_keep F a0 a1 h) fun _ h =>
          zbd (fX12_blank F a0 a1 a2 a3 h) fun _ h =>
          zbd (fX12_cellsOf F a0 a1 h) fun r5 h =>
          some (r5, h)
        )
      )
    )
  )
set_option maxHeartbeats 4000000 in
set_option maxRecDepth 100000 in
theorem mX12_make (F : Nat) (l : Launch) (g : zG) (B : Nat) (h : HF) (a0 : Nat) (a1 : Int) (a2 : Int) (a3 : Int) (ra0 : kt a0 = 15) (ra1 : rng a1) (ra2 : rng a2) (ra3 : rng a3) : CTi l g B yX12_make cX12_make 4 (some .int) 2 [.ref (B + a0), .int (ii a1), .int (ii a2), .int (ii a3)] h (fX12_make F a0 a1 a2 a3 h) := by
  refine z_enterI (by decide) rfl (Nat.le_of_ble_eq_true rfl) ?_
  intro p e s m args below meth c ls o Q cx hp hl hf hQ
  have hl : lv_has ls 4 [(0, .ref (B + a0)), (1, .int (ii a1)), (2, .int (ii a2)), (3, .int (ii a3))] := hl
  unfold fX12_make at hf
  refine lv_aload_n cx.1 cx.2.1 dX12_make_0 rfl (lv_at hl 0 rfl) ?_
  refine z_iconst cx dX12_make_1 ?_
  refine z_puti cx hp (T := TX12) tyX12 tyX12_ok nmX12 12 0 (by decide) rfl zin_12 (by decide) (by decide) ra0 rfl rfl rfl fl_X12_115 dX12_make_2 hf (fun h H locs hp hf => ?_)
  refine lv_aload_n cx.1 cx.2.1 dX12_make_5 rfl (lv_at hl 0 rfl) ?_
  refine lv_iload_n cx.1 cx.2.1 dX12_make_6 rfl (lv_at hl 1 rfl) ?_
  refine z_ci cx hp (fun o' hx => zrunV (n := 2) (As := [.int (ii a1)]) (rest := []) cx hp (mX12_isDrawer F l g B h a0 a1 ra0 ra1 o' hx) 12 ra0 (by decide) rfl vw_X12_isDrawer ml_X12_146 (by decide) rfl hl.1 rfl (Nat.le_of_ble_eq_true rfl) dX12_make_7) hf (fun r1 h H locs rr1 hp hf => ?_)
  refine z_jn hf (fun j => ∀  (h : HF) (H : Heap) (locs : List Loc) (ls : Array Slot), Hp g B s h H locs → lv_has ls 4 [] → j  h = some o → W p l e (rmn 2) s m args below meth c H locs 0 0 Q (F0 m 32 ls [])) ?_ (fun j32 hj32 hf => ?_)
  · intro  h H locs ls  hp hl hf
    refine z_bipush cx (by decide) dX12_make_32 ?_
    rw [hQ]; exact z_iret cx hp (by decide) dX12_make_34 hf
  refine z_if_eq cx rr1 (tgt := 32) dX12_make_10 (by decide) hf (fun _ hf => ?_) (fun _ hf => ?_)
  · exact hj32  h _ _ ls  hp (lv_sub hl [] rfl) hf
  · refine lv_iload_n cx.1 cx.2.1 dX12_make_13 rfl (lv_at hl 2 rfl) ?_
    refine z_iconst cx dX12_make_14 ?_
    refine z_icmp_lt cx ra2 (by decide) (tgt := 32) dX12_make_15 (by decide) hf (fun _ hf => ?_) (fun _ hf => ?_)
    · exact hj32  h _ _ ls  hp (lv_sub hl [] rfl) hf
    · refine lv_iload_n cx.1 cx.2.1 dX12_make_18 rfl (lv_at hl 2 rfl) ?_
      refine z_bipush cx (by decide) dX12_make_19 ?_
      refine z_icmp_gt cx ra2 (by decide) (tgt := 32) dX12_make_21 (by decide) hf (fun _ hf => ?_) (fun _ hf => ?_)
      · exact hj32  h _ _ ls  hp (lv_sub hl [] rfl) hf
      · refine lv_aload_n cx.1 cx.2.1 dX12_make_24 rfl (lv_at hl 0 rfl) ?_
        refine lv_iload_n cx.1 cx.2.1 dX12_make_25 rfl (lv_at hl 3 rfl) ?_
        refine z_ci cx hp (fun o' hx => zrunV (n := 2) (As := [.int (ii a3)]) (rest := []) cx hp (mX12_areArities F l g B h a0 a3 ra0 ra3 o' hx) 12 ra0 (by decide) rfl vw_X12_areArities ml_X12_150 (by decide) rfl hl.1 rfl (Nat.le_of_ble_eq_true rfl) dX12_make_26) hf (fun r2 h H locs rr2 hp hf => ?_)
        refine z_if_ne cx rr2 (tgt := 35) dX12_make_29 (by decide) hf (fun _ hf => ?_) (fun _ hf => ?_)
        · exact hj32  h _ _ ls  hp (lv_sub hl [] rfl) hf
        · refine lv_aload_n cx.1 cx.2.1 dX12_make_35 rfl (lv_at hl 0 rfl) ?_
          refine lv_iload_n cx.1 cx.2.1 dX12_make_36 rfl (lv_at hl 1 rfl) ?_
          refine z_cv cx hp (fun o' hx => zrunV (n := 2) (As := [.int (ii a1)]) (rest := []) cx hp (mX12_keep F l g B h a0 a1 ra0 ra1 o' hx) 12 ra0 (by decide) rfl vw_X12_keep ml_X12_153 (by decide) rfl hl.1 rfl (Nat.le_of_ble_eq_true rfl) dX12_make_37) hf (fun _ h H locs hp hf => ?_)
          refine lv_aload_n cx.1 cx.2.1 dX12_make_40 rfl (lv_at hl 0 rfl) ?_
          refine lv_iload_n cx.1 cx.2.1 dX12_make_41 rfl (lv_at hl 1 rfl) ?_
          refine lv_iload_n cx.1 cx.2.1 dX12_make_42 rfl (lv_at hl 2 rfl) ?_
          refine lv_iload_n cx.1 cx.2.1 dX12_make_43 rfl (lv_at hl 3 rfl) ?_
          refine z_cv cx hp (fun o' hx => zrunV (n := 2) (As := [.int (ii a1), .int (ii a2), .int (ii a3)]) (rest := []) cx hp (mX12_blank F l g B h a0 a1 a2 a3 ra0 ra1 ra2 ra3 o' hx) 12 ra0 (by decide) rfl vw_X12_blank ml_X12_156 (by decide) rfl hl.1 rfl (Nat.le_of_ble_eq_true rfl) dX12_make_44) hf (fun _ h H locs hp hf => ?_)
          refine lv_aload_n cx.1 cx.2.1 dX12_make_47 rfl (lv_at hl 0 rfl) ?_
          refine lv_iload_n cx.1 cx.2.1 dX12_make_48 rfl (lv_at hl 1 rfl) ?_
          refine z_ci cx hp (fun o' hx => zrunV (n := 2) (As := [.int (ii a1)]) (rest := []) cx hp (mX12_cellsOf F l g B h a0 a1 ra0 ra1 o' hx) 12 ra0 (by decide) rfl vw_X12_cellsOf ml_X12_160 (by decide) rfl hl.1 rfl (Nat.le_of_ble_eq_true rfl) dX12_make_49) hf (fun r5 h H locs rr5 hp hf => ?_)
          rw [hQ]; exact z_iret cx hp rr5 dX12_make_52 hf
theorem dX12_refuse_0 : decode cX12_refuse 0 = .ok (.aload_n 0, 1) := by decide +kernel
theorem dX12_refuse_1 : decode cX12_refuse 1 = .ok (.iload_n 1, 1) := by decide +kernel
theorem dX12_refuse_2 : decode cX12_refuse 2 = .ok (.invokevirtual 146, 3) := by decide +kernel
theorem dX12_refuse_5 : decode cX12_refuse 5 = .ok (.ifCond .ne 8, 3) := by decide +kernel
theorem dX12_refuse_8 : decode cX12_refuse 8 = .ok (.bipush (-3), 2) := by decide +kernel
theorem dX12_refuse_10 : decode cX12_refuse 10 = .ok (.goto 18, 3) := by decide +kernel
theorem dX12_refuse_13 : decode cX12_refuse 13 = .ok (.aload_n 0, 1) := by decide +kernel
theorem dX12_refuse_14 : decode cX12_refuse 14 = .ok (.getfield 16, 3) := by decide +kernel
theorem dX12_refuse_17 : decode cX12_refuse 17 = .ok (.iload_n 1, 1) := by decide +kernel
theorem dX12_refuse_18 : decode cX12_refuse 18 = .ok (.iaload, 1) := by decide +kernel
theorem dX12_refuse_19 : decode cX12_refuse 19 = .ok (.ifCond .ne 8, 3) := by decide +kernel
theorem dX12_refuse_22 : decode cX12_refuse 22 = .ok (.bipush (-2), 2) := by decide +kernel
theorem dX12_refuse_24 : decode cX12_refuse 24 = .ok (.goto 4, 3) := by decide +kernel
theorem dX12_refuse_27 : decode cX12_refuse 27 = .ok (.iconst 0, 1) := by decide +kernel
theorem dX12_refuse_28 : decode cX12_refuse 28 = .ok (.ireturn, 1) := by decide +kernel
def fX12_refuse (F : Nat) (a0 : Nat) (a1 : Int) (h : HF) : RO :=
  zbd (fX12_isDrawer F a0 a1 h) fun r1 h =>
  zjn (fun (y28_0 : Int) (h : HF) => (
    some (y28_0, h)
  )) fun j28 =>
  if r1 = 0 then (
    j28 (-3) h
  ) else (
    zrd h (a0 + 3) a1 fun x2 =>
    if x2 = 0 then (
      j28 (-2) h
    ) else (
      j28 0 h
    )
  )
set_option maxHeartbeats 4000000 in
set_option maxRecDepth 100000 in
theorem mX12_refuse (F : Nat) (l : Launch) (g : zG) (B : Nat) (h : HF) (a0 : Nat) (a1 : Int) (ra0 : kt a0 = 15) (ra1 : rng a1) : CTi l g B yX12_refuse cX12_refuse 2 (some .int) 1 [.ref (B + a0), .int (ii a1)] h (fX12_refuse F a0 a1 h) := by
  refine z_enterI (by decide) rfl (Nat.le_of_ble_eq_true rfl) ?_
  intro p e s m args below meth c ls o Q cx hp hl hf hQ
  have hl : lv_has ls 2 [(0, .ref (B + a0)), (1, .int (ii a1))] := hl
  unfold fX12_refuse at hf
  refine lv_aload_n cx.1 cx.2.1 dX12_refuse_0 rfl (lv_at hl 0 rfl) ?_
  refine lv_iload_n cx.1 cx.2.1 dX12_refuse_1 rfl (lv_at hl 1 rfl) ?_
  refine z_ci cx hp (fun o' hx => zrunV (n := 1) (As := [.int (ii a1)]) (rest := []) cx hp (mX12_isDrawer F l g B h a0 a1 ra0 ra1 o' hx) 12 ra0 (by decide) rfl vw_X12_isDrawer ml_X12_146 (by decide) rfl hl.1 rfl (Nat.le_of_ble_eq_true rfl) dX12_refuse_2) hf (fun r1 h H locs rr1 hp hf => ?_)
  refine z_jn hf (fun j => ∀ (y28_0 : Int) (h : HF) (H : Heap) (locs : List Loc) (ls : Array Slot), rng y28_0 → Hp g B s h H locs → lv_has ls 2 [] → j y28_0 h = some o → W p l e (rmn 1) s m args below meth c H locs 0 0 Q (F0 m 28 ls [.int (ii y28_0)])) ?_ (fun j28 hj28 hf => ?_)
  · intro y28_0 h H locs ls ry28_0 hp hl hf
    rw [hQ]; exact z_iret cx hp ry28_0 dX12_refuse_28 hf
  refine z_if_ne cx rr1 (tgt := 13) dX12_refuse_5 (by decide) hf (fun _ hf => ?_) (fun _ hf => ?_)
  · refine z_bipush cx (by decide) dX12_refuse_8 ?_
    refine lv_goto (tgt := 28) cx.1 cx.2.1 dX12_refuse_10 (by decide) ?_
    exact hj28 (-3) h _ _ ls (by decide) hp (lv_sub hl [] rfl) hf
  · refine lv_aload_n cx.1 cx.2.1 dX12_refuse_13 rfl (lv_at hl 0 rfl) ?_
    refine z_gets cx hp (T := TX12) 12 6 (a0 + 3) rfl zin_12 (by decide) (by decide) ra0 rfl fl_X12_16 dX12_refuse_14 ?_
    refine lv_iload_n cx.1 cx.2.1 dX12_refuse_17 rfl (lv_at hl 1 rfl) ?_
    refine z_iald cx hp (zs_12_6 a0 (kt_lt ra0 (by decide)) ra0) ra1 dX12_refuse_18 hf (fun x2 rx2 hf => ?_)
    refine z_if_ne cx rx2 (tgt := 27) dX12_refuse_19 (by decide) hf (fun _ hf => ?_) (fun _ hf => ?_)
    · refine z_bipush cx (by decide) dX12_refuse_22 ?_
      refine lv_goto (tgt := 28) cx.1 cx.2.1 dX12_refuse_24 (by decide) ?_
      exact hj28 (-2) h _ _ ls (by decide) hp (lv_sub hl [] rfl) hf
    · refine z_iconst cx dX12_refuse_27 ?_
      exact hj28 0 h _ _ ls (by decide) hp (lv_sub hl [] rfl) hf
theorem dX12_isOp_0 : decode cX12_isOp 0 = .ok (.iload_n 2, 1) := by decide +kernel
theorem dX12_isOp_1 : decode cX12_isOp 1 = .ok (.ifCond .lt 17, 3) := by decide +kernel
theorem dX12_isOp_4 : decode cX12_isOp 4 = .ok (.iload_n 2, 1) := by decide +kernel
theorem dX12_isOp_5 : decode cX12_isOp 5 = .ok (.aload_n 0, 1) := by decide +kernel
theorem dX12_isOp_6 : decode cX12_isOp 6 = .ok (.getfield 19, 3) := by decide +kernel
theorem dX12_isOp_9 : decode cX12_isOp 9 = .ok (.iload_n 1, 1) := by decide +kernel
theorem dX12_isOp_10 : decode cX12_isOp 10 = .ok (.iaload, 1) := by decide +kernel
theorem dX12_isOp_11 : decode cX12_isOp 11 = .ok (.if_icmp .ge 7, 3) := by decide +kernel
theorem dX12_isOp_14 : decode cX12_isOp 14 = .ok (.iconst 1, 1) := by decide +kernel
theorem dX12_isOp_15 : decode cX12_isOp 15 = .ok (.goto 4, 3) := by decide +kernel
theorem dX12_isOp_18 : decode cX12_isOp 18 = .ok (.iconst 0, 1) := by decide +kernel
theorem dX12_isOp_19 : decode cX12_isOp 19 = .ok (.ireturn, 1) := by decide +kernel
def fX12_isOp (F : Nat) (a0 : Nat) (a1 : Int) (a2 : Int) (h : HF) : RO :=
  zjn (fun (y19_0 : Int) (h : HF) => (
    zrz y19_0 h
  )) fun j19 =>
  zjn (fun  (h : HF) => (
    j19 0 h
  )) fun j18 =>
  if a2 < 0 then (
    j18  h
  ) else (
    zrd h (a0 + 4) a1 fun x1 =>
    if a2 < x1 then (
      j19 1 h
    ) else (
      j18  h
    )
  )
set_option maxHeartbeats 4000000 in
set_option maxRecDepth 100000 in
theorem mX12_isOp (F : Nat) (l : Launch) (g : zG) (B : Nat) (h : HF) (a0 : Nat) (a1 : Int) (a2 : Int) (ra0 : kt a0 = 15) (ra1 : rng a1) (ra2 : rng a2) : CTi l g B yX12_isOp cX12_isOp 3 (some .boolean) 0 [.ref (B + a0), .int (ii a1), .int (ii a2)] h (fX12_isOp F a0 a1 a2 h) := by
  refine z_enterI (by decide) rfl (Nat.le_of_ble_eq_true rfl) ?_
  intro p e s m args below meth c ls o Q cx hp hl hf hQ
  have hl : lv_has ls 3 [(0, .ref (B + a0)), (1, .int (ii a1)), (2, .int (ii a2))] := hl
  unfold fX12_isOp at hf
  refine lv_iload_n cx.1 cx.2.1 dX12_isOp_0 rfl (lv_at hl 2 rfl) ?_
  refine z_jn hf (fun j => ∀ (y19_0 : Int) (h : HF) (H : Heap) (locs : List Loc) (ls : Array Slot), rng y19_0 → Hp g B s h H locs → lv_has ls 3 [] → j y19_0 h = some o → W p l e (rmn 0) s m args below meth c H locs 0 0 Q (F0 m 19 ls [.int (ii y19_0)])) ?_ (fun j19 hj19 hf => ?_)
  · intro y19_0 h H locs ls ry19_0 hp hl hf
    rw [hQ]; exact z_zret cx hp dX12_isOp_19 hf
  refine z_jn hf (fun j => ∀  (h : HF) (H : Heap) (locs : List Loc) (ls : Array Slot), Hp g B s h H locs → lv_has ls 3 [] → j  h = some o → W p l e (rmn 0) s m args below meth c H locs 0 0 Q (F0 m 18 ls [])) ?_ (fun j18 hj18 hf => ?_)
  · intro  h H locs ls  hp hl hf
    refine z_iconst cx dX12_isOp_18 ?_
    exact hj19 0 h _ _ ls (by decide) hp (lv_sub hl [] rfl) hf
  refine z_if_lt cx ra2 (tgt := 18) dX12_isOp_1 (by decide) hf (fun _ hf => ?_) (fun _ hf => ?_)
  · exact hj18  h _ _ ls  hp (lv_sub hl [] rfl) hf
  · refine lv_iload_n cx.1 cx.2.1 dX12_isOp_4 rfl (lv_at hl 2 rfl) ?_
    refine lv_aload_n cx.1 cx.2.1 dX12_isOp_5 rfl (lv_at hl 0 rfl) ?_
    refine z_gets cx hp (T := TX12) 12 7 (a0 + 4) rfl zin_12 (by decide) (by decide) ra0 rfl fl_X12_19 dX12_isOp_6 ?_
    refine lv_iload_n cx.1 cx.2.1 dX12_isOp_9 rfl (lv_at hl 1 rfl) ?_
    refine z_iald cx hp (zs_12_7 a0 (kt_lt ra0 (by decide)) ra0) ra1 dX12_isOp_10 hf (fun x1 rx1 hf => ?_)
    refine z_icmp_ge cx ra2 rx1 (tgt := 18) dX12_isOp_11 (by decide) hf (fun _ hf => ?_) (fun _ hf => ?_)
    · refine z_iconst cx dX12_isOp_14 ?_
      refine lv_goto (tgt := 19) cx.1 cx.2.1 dX12_isOp_15 (by decide) ?_
      exact hj19 1 h _ _ ls (by decide) hp (lv_sub hl [] rfl) hf
    · exact hj18  h _ _ ls  hp (lv_sub hl [] rfl) hf
theorem dX12_isElement_0 : decode cX12_isElement 0 = .ok (.iload_n 2, 1) := by decide +kernel
theorem dX12_isElement_1 : decode cX12_isElement 1 = .ok (.ifCond .lt 17, 3) := by decide +kernel
theorem dX12_isElement_4 : decode cX12_isElement 4 = .ok (.iload_n 2, 1) := by decide +kernel
theorem dX12_isElement_5 : decode cX12_isElement 5 = .ok (.aload_n 0, 1) := by decide +kernel
theorem dX12_isElement_6 : decode cX12_isElement 6 = .ok (.getfield 16, 3) := by decide +kernel
theorem dX12_isElement_9 : decode cX12_isElement 9 = .ok (.iload_n 1, 1) := by decide +kernel
theorem dX12_isElement_10 : decode cX12_isElement 10 = .ok (.iaload, 1) := by decide +kernel
theorem dX12_isElement_11 : decode cX12_isElement 11 = .ok (.if_icmp .ge 7, 3) := by decide +kernel
theorem dX12_isElement_14 : decode cX12_isElement 14 = .ok (.iconst 1, 1) := by decide +kernel
theorem dX12_isElement_15 : decode cX12_isElement 15 = .ok (.goto 4, 3) := by decide +kernel
theorem dX12_isElement_18 : decode cX12_isElement 18 = .ok (.iconst 0, 1) := by decide +kernel
theorem dX12_isElement_19 : decode cX12_isElement 19 = .ok (.ireturn, 1) := by decide +kernel
def fX12_isElement (F : Nat) (a0 : Nat) (a1 : Int) (a2 : Int) (h : HF) : RO :=
  zjn (fun (y19_0 : Int) (h : HF) => (
    zrz y19_0 h
  )) fun j19 =>
  zjn (fun  (h : HF) => (
    j19 0 h
  )) fun j18 =>
  if a2 < 0 then (
    j18  h
  ) else (
    zrd h (a0 + 3) a1 fun x1 =>
    if a2 < x1 then (
      j19 1 h
    ) else (
      j18  h
    )
  )
set_option maxHeartbeats 4000000 in
set_option maxRecDepth 100000 in
theorem mX12_isElement (F : Nat) (l : Launch) (g : zG) (B : Nat) (h : HF) (a0 : Nat) (a1 : Int) (a2 : Int) (ra0 : kt a0 = 15) (ra1 : rng a1) (ra2 : rng a2) : CTi l g B yX12_isElement cX12_isElement 3 (some .boolean) 0 [.ref (B + a0), .int (ii a1), .int (ii a2)] h (fX12_isElement F a0 a1 a2 h) := by
  refine z_enterI (by decide) rfl (Nat.le_of_ble_eq_true rfl) ?_
  intro p e s m args below meth c ls o Q cx hp hl hf hQ
  have hl : lv_has ls 3 [(0, .ref (B + a0)), (1, .int (ii a1)), (2, .int (ii a2))] := hl
  unfold fX12_isElement at hf
  refine lv_iload_n cx.1 cx.2.1 dX12_isElement_0 rfl (lv_at hl 2 rfl) ?_
  refine z_jn hf (fun j => ∀ (y19_0 : Int) (h : HF) (H : Heap) (locs : List Loc) (ls : Array Slot), rng y19_0 → Hp g B s h H locs → lv_has ls 3 [] → j y19_0 h = some o → W p l e (rmn 0) s m args below meth c H locs 0 0 Q (F0 m 19 ls [.int (ii y19_0)])) ?_ (fun j19 hj19 hf => ?_)
  · intro y19_0 h H locs ls ry19_0 hp hl hf
    rw [hQ]; exact z_zret cx hp dX12_isElement_19 hf
  refine z_jn hf (fun j => ∀  (h : HF) (H : Heap) (locs : List Loc) (ls : Array Slot), Hp g B s h H locs → lv_has ls 3 [] → j  h = some o → W p l e (rmn 0) s m args below meth c H locs 0 0 Q (F0 m 18 ls [])) ?_ (fun j18 hj18 hf => ?_)
  · intro  h H locs ls  hp hl hf
    refine z_iconst cx dX12_isElement_18 ?_
    exact hj19 0 h _ _ ls (by decide) hp (lv_sub hl [] rfl) hf
  refine z_if_lt cx ra2 (tgt := 18) dX12_isElement_1 (by decide) hf (fun _ hf => ?_) (fun _ hf => ?_)
  · exact hj18  h _ _ ls  hp (lv_sub hl [] rfl) hf
  · refine lv_iload_n cx.1 cx.2.1 dX12_isElement_4 rfl (lv_at hl 2 rfl) ?_
    refine lv_aload_n cx.1 cx.2.1 dX12_isElement_5 rfl (lv_at hl 0 rfl) ?_
    refine z_gets cx hp (T := TX12) 12 6 (a0 + 3) rfl zin_12 (by decide) (by decide) ra0 rfl fl_X12_16 dX12_isElement_6 ?_
    refine lv_iload_n cx.1 cx.2.1 dX12_isElement_9 rfl (lv_at hl 1 rfl) ?_
    refine z_iald cx hp (zs_12_6 a0 (kt_lt ra0 (by decide)) ra0) ra1 dX12_isElement_10 hf (fun x1 rx1 hf => ?_)
    refine z_icmp_ge cx ra2 rx1 (tgt := 18) dX12_isElement_11 (by decide) hf (fun _ hf => ?_) (fun _ hf => ?_)
    · refine z_iconst cx dX12_isElement_14 ?_
      refine lv_goto (tgt := 19) cx.1 cx.2.1 dX12_isElement_15 (by decide) ?_
      exact hj19 1 h _ _ ls (by decide) hp (lv_sub hl [] rfl) hf
    · exact hj18  h _ _ ls  hp (lv_sub hl [] rfl) hf
theorem dX12_areElements_0 : decode cX12_areElements 0 = .ok (.aload_n 0, 1) := by decide +kernel
theorem dX12_areElements_1 : decode cX12_areElements 1 = .ok (.iload_n 1, 1) := by decide +kernel
theorem dX12_areElements_2 : decode cX12_areElements 2 = .ok (.iload_n 2, 1) := by decide +kernel
theorem dX12_areElements_3 : decode cX12_areElements 3 = .ok (.invokevirtual 129, 3) := by decide +kernel
theorem dX12_areElements_6 : decode cX12_areElements 6 = .ok (.iconst 1, 1) := by decide +kernel
theorem dX12_areElements_7 : decode cX12_areElements 7 = .ok (.if_icmp .lt 12, 3) := by decide +kernel
theorem dX12_areElements_10 : decode cX12_areElements 10 = .ok (.aload_n 0, 1) := by decide +kernel
theorem dX12_areElements_11 : decode cX12_areElements 11 = .ok (.iload_n 1, 1) := by decide +kernel
theorem dX12_areElements_12 : decode cX12_areElements 12 = .ok (.iload_n 3, 1) := by decide +kernel
theorem dX12_areElements_13 : decode cX12_areElements 13 = .ok (.invokevirtual 164, 3) := by decide +kernel
theorem dX12_areElements_16 : decode cX12_areElements 16 = .ok (.ifCond .eq 27, 3) := by decide +kernel
theorem dX12_areElements_19 : decode cX12_areElements 19 = .ok (.aload_n 0, 1) := by decide +kernel
theorem dX12_areElements_20 : decode cX12_areElements 20 = .ok (.iload_n 1, 1) := by decide +kernel
theorem dX12_areElements_21 : decode cX12_areElements 21 = .ok (.iload_n 2, 1) := by decide +kernel
theorem dX12_areElements_22 : decode cX12_areElements 22 = .ok (.invokevirtual 129, 3) := by decide +kernel
theorem dX12_areElements_25 : decode cX12_areElements 25 = .ok (.iconst 2, 1) := by decide +kernel
theorem dX12_areElements_26 : decode cX12_areElements 26 = .ok (.if_icmp .lt 13, 3) := by decide +kernel
theorem dX12_areElements_29 : decode cX12_areElements 29 = .ok (.aload_n 0, 1) := by decide +kernel
theorem dX12_areElements_30 : decode cX12_areElements 30 = .ok (.iload_n 1, 1) := by decide +kernel
theorem dX12_areElements_31 : decode cX12_areElements 31 = .ok (.iload 4, 2) := by decide +kernel
theorem dX12_areElements_33 : decode cX12_areElements 33 = .ok (.invokevirtual 164, 3) := by decide +kernel
theorem dX12_areElements_36 : decode cX12_areElements 36 = .ok (.ifCond .eq 7, 3) := by decide +kernel
theorem dX12_areElements_43 : decode cX12_areElements 43 = .ok (.iconst 0, 1) := by decide +kernel
theorem dX12_areElements_39 : decode cX12_areElements 39 = .ok (.iconst 1, 1) := by decide +kernel
theorem dX12_areElements_40 : decode cX12_areElements 40 = .ok (.goto 4, 3) := by decide +kernel
theorem dX12_areElements_44 : decode cX12_areElements 44 = .ok (.ireturn, 1) := by decide +kernel
def fX12_areElements (F : Nat) (a0 : Nat) (a1 : Int) (a2 : Int) (a3 : Int) (a4 : Int) (h : HF) : RO :=
  zbd (fX12_arity F a0 a1 a2 h) fun r1 h =>
  zjn (fun (y44_0 : Int) (h : HF) => (
    zrz y44_0 h
  )) fun j44 =>
  zjn (fun  (h : HF) => (
    j44 0 h
  )) fun j43 =>
  zjn (fun  (h : HF) => (
    zbd (fX12_arity F a0 a1 a2 h) fun r2 h =>
    zjn (fun  (h : HF) => (
      j44 1 h
    )) fun j39 =>
    if r2 < 2 then (
      j39  h
    ) else (
      zbd (fX12_isElement F a0 a1 a4 h) fun r3 h =>
      if r3 = 0 then (
        j43  h
      ) else (
        j39  h
      )
    )
  )) fun j19 =>
  if r1 < 1 then (
    j19  h
  ) else (
    zbd (fX12_isElement F a0 a1 a3 h) fun r4 h =>
    if r4 = 0 then (
      j43  h
    ) else (
      j19  h
    )
  )
set_option maxHeartbeats 4000000 in
set_option maxRecDepth 100000 in
theorem mX12_areElements (F : Nat) (l : Launch) (g : zG) (B : Nat) (h : HF) (a0 : Nat) (a1 : Int) (a2 : Int) (a3 : Int) (a4 : Int) (ra0 : kt a0 = 15) (ra1 : rng a1) (ra2 : rng a2) (ra3 : rng a3) (ra4 : rng a4) : CTi l g B yX12_areElements cX12_areElements 5 (some .boolean) 1 [.ref (B + a0), .int (ii a1), .int (ii a2), .int (ii a3), .int (ii a4)] h (fX12_areElements F a0 a1 a2 a3 a4 h) := by
  refine z_enterI (by decide) rfl (Nat.le_of_ble_eq_true rfl) ?_
  intro p e s m args below meth c ls o Q cx hp hl hf hQ
  have hl : lv_has ls 5 [(0, .ref (B + a0)), (1, .int (ii a1)), (2, .int (ii a2)), (3, .int (ii a3)), (4, .int (ii a4))] := hl
  unfold fX12_areElements at hf
  refine lv_aload_n cx.1 cx.2.1 dX12_areElements_0 rfl (lv_at hl 0 rfl) ?_
  refine lv_iload_n cx.1 cx.2.1 dX12_areElements_1 rfl (lv_at hl 1 rfl) ?_
  refine lv_iload_n cx.1 cx.2.1 dX12_areElements_2 rfl (lv_at hl 2 rfl) ?_
  refine z_ci cx hp (fun o' hx => zrunV (n := 1) (As := [.int (ii a1), .int (ii a2)]) (rest := []) cx hp (mX12_arity F l g B h a0 a1 a2 ra0 ra1 ra2 o' hx) 12 ra0 (by decide) rfl vw_X12_arity ml_X12_129 (by decide) rfl hl.1 rfl (Nat.le_of_ble_eq_true rfl) dX12_areElements_3) hf (fun r1 h H locs rr1 hp hf => ?_)
  refine z_iconst cx dX12_areElements_6 ?_
  refine z_jn hf (fun j => ∀ (y44_0 : Int) (h : HF) (H : Heap) (locs : List Loc) (ls : Array Slot), rng y44_0 → Hp g B s h H locs → lv_has ls 5 [] → j y44_0 h = some o → W p l e (rmn 1) s m args below meth c H locs 0 0 Q (F0 m 44 ls [.int (ii y44_0)])) ?_ (fun j44 hj44 hf => ?_)
  · intro y44_0 h H locs ls ry44_0 hp hl hf
    rw [hQ]; exact z_zret cx hp dX12_areElements_44 hf
  refine z_jn hf (fun j => ∀  (h : HF) (H : Heap) (locs : List Loc) (ls : Array Slot), Hp g B s h H locs → lv_has ls 5 [] → j  h = some o → W p l e (rmn 1) s m args below meth c H locs 0 0 Q (F0 m 43 ls [])) ?_ (fun j43 hj43 hf => ?_)
  · intro  h H locs ls  hp hl hf
    refine z_iconst cx dX12_areElements_43 ?_
    exact hj44 0 h _ _ ls (by decide) hp (lv_sub hl [] rfl) hf
  refine z_jn hf (fun j => ∀  (h : HF) (H : Heap) (locs : List Loc) (ls : Array Slot), Hp g B s h H locs → lv_has ls 5 [(0, .ref (B + a0)), (1, .int (ii a1)), (2, .int (ii a2)), (4, .int (ii a4))] → j  h = some o → W p l e (rmn 1) s m args below meth c H locs 0 0 Q (F0 m 19 ls [])) ?_ (fun j19 hj19 hf => ?_)
  · intro  h H locs ls  hp hl hf
    refine lv_aload_n cx.1 cx.2.1 dX12_areElements_19 rfl (lv_at hl 0 rfl) ?_
    refine lv_iload_n cx.1 cx.2.1 dX12_areElements_20 rfl (lv_at hl 1 rfl) ?_
    refine lv_iload_n cx.1 cx.2.1 dX12_areElements_21 rfl (lv_at hl 2 rfl) ?_
    refine z_ci cx hp (fun o' hx => zrunV (n := 1) (As := [.int (ii a1), .int (ii a2)]) (rest := []) cx hp (mX12_arity F l g B h a0 a1 a2 ra0 ra1 ra2 o' hx) 12 ra0 (by decide) rfl vw_X12_arity ml_X12_129 (by decide) rfl hl.1 rfl (Nat.le_of_ble_eq_true rfl) dX12_areElements_22) hf (fun r2 h H locs rr2 hp hf => ?_)
    refine z_iconst cx dX12_areElements_25 ?_
    refine z_jn hf (fun j => ∀  (h : HF) (H : Heap) (locs : List Loc) (ls : Array Slot), Hp g B s h H locs → lv_has ls 5 [] → j  h = some o → W p l e (rmn 1) s m args below meth c H locs 0 0 Q (F0 m 39 ls [])) ?_ (fun j39 hj39 hf => ?_)
    · intro  h H locs ls  hp hl hf
      refine z_iconst cx dX12_areElements_39 ?_
      refine lv_goto (tgt := 44) cx.1 cx.2.1 dX12_areElements_40 (by decide) ?_
      exact hj44 1 h _ _ ls (by decide) hp (lv_sub hl [] rfl) hf
    refine z_icmp_lt cx rr2 (by decide) (tgt := 39) dX12_areElements_26 (by decide) hf (fun _ hf => ?_) (fun _ hf => ?_)
    · exact hj39  h _ _ ls  hp (lv_sub hl [] rfl) hf
    · refine lv_aload_n cx.1 cx.2.1 dX12_areElements_29 rfl (lv_at hl 0 rfl) ?_
      refine lv_iload_n cx.1 cx.2.1 dX12_areElements_30 rfl (lv_at hl 1 rfl) ?_
      refine lv_iload cx.1 cx.2.1 dX12_areElements_31 (lv_at hl 3 rfl) ?_
      refine z_ci cx hp (fun o' hx => zrunV (n := 1) (As := [.int (ii a1), .int (ii a4)]) (rest := []) cx hp (mX12_isElement F l g B h a0 a1 a4 ra0 ra1 ra4 o' hx) 12 ra0 (by decide) rfl vw_X12_isElement ml_X12_164 (by decide) rfl hl.1 rfl (Nat.le_of_ble_eq_true rfl) dX12_areElements_33) hf (fun r3 h H locs rr3 hp hf => ?_)
      refine z_if_eq cx rr3 (tgt := 43) dX12_areElements_36 (by decide) hf (fun _ hf => ?_) (fun _ hf => ?_)
      · exact hj43  h _ _ ls  hp (lv_sub hl [] rfl) hf
      · exact hj39  h _ _ ls  hp (lv_sub hl [] rfl) hf
  refine z_icmp_lt cx rr1 (by decide) (tgt := 19) dX12_areElements_7 (by decide) hf (fun _ hf => ?_) (fun _ hf => ?_)
  · exact hj19  h _ _ ls  hp (lv_sub hl [0, 1, 2, 4] rfl) hf
  · refine lv_aload_n cx.1 cx.2.1 dX12_areElements_10 rfl (lv_at hl 0 rfl) ?_
    refine lv_iload_n cx.1 cx.2.1 dX12_areElements_11 rfl (lv_at hl 1 rfl) ?_
    refine lv_iload_n cx.1 cx.2.1 dX12_areElements_12 rfl (lv_at hl 3 rfl) ?_
    refine z_ci cx hp (fun o' hx => zrunV (n := 1) (As := [.int (ii a1), .int (ii a3)]) (rest := []) cx hp (mX12_isElement F l g B h a0 a1 a3 ra0 ra1 ra3 o' hx) 12 ra0 (by decide) rfl vw_X12_isElement ml_X12_164 (by decide) rfl hl.1 rfl (Nat.le_of_ble_eq_true rfl) dX12_areElements_13) hf (fun r4 h H locs rr4 hp hf => ?_)
    refine z_if_eq cx rr4 (tgt := 43) dX12_areElements_16 (by decide) hf (fun _ hf => ?_) (fun _ hf => ?_)
    · exact hj43  h _ _ ls  hp (lv_sub hl [] rfl) hf
    · exact hj19  h _ _ ls  hp (lv_sub hl [0, 1, 2, 4] rfl) hf
theorem dX12_set_0 : decode cX12_set 0 = .ok (.aload_n 0, 1) := by decide +kernel
theorem dX12_set_1 : decode cX12_set 1 = .ok (.iconst 0, 1) := by decide +kernel
theorem dX12_set_2 : decode cX12_set 2 = .ok (.putfield 115, 3) := by decide +kernel
theorem dX12_set_5 : decode cX12_set 5 = .ok (.aload_n 0, 1) := by decide +kernel
theorem dX12_set_6 : decode cX12_set 6 = .ok (.iload_n 1, 1) := by decide +kernel
theorem dX12_set_7 : decode cX12_set 7 = .ok (.invokevirtual 168, 3) := by decide +kernel
theorem dX12_set_10 : decode cX12_set 10 = .ok (.istore 6, 2) := by decide +kernel
theorem dX12_set_12 : decode cX12_set 12 = .ok (.iload 6, 2) := by decide +kernel
theorem dX12_set_14 : decode cX12_set 14 = .ok (.ifCond .eq 6, 3) := by decide +kernel
theorem dX12_set_17 : decode cX12_set 17 = .ok (.iload 6, 2) := by decide +kernel
theorem dX12_set_19 : decode cX12_set 19 = .ok (.ireturn, 1) := by decide +kernel
theorem dX12_set_20 : decode cX12_set 20 = .ok (.aload_n 0, 1) := by decide +kernel
theorem dX12_set_21 : decode cX12_set 21 = .ok (.iload_n 1, 1) := by decide +kernel
theorem dX12_set_22 : decode cX12_set 22 = .ok (.iload_n 2, 1) := by decide +kernel
theorem dX12_set_23 : decode cX12_set 23 = .ok (.invokevirtual 171, 3) := by decide +kernel
theorem dX12_set_26 : decode cX12_set 26 = .ok (.ifCond .eq 25, 3) := by decide +kernel
theorem dX12_set_29 : decode cX12_set 29 = .ok (.aload_n 0, 1) := by decide +kernel
theorem dX12_set_30 : decode cX12_set 30 = .ok (.iload_n 1, 1) := by decide +kernel
theorem dX12_set_31 : decode cX12_set 31 = .ok (.iload_n 2, 1) := by decide +kernel
theorem dX12_set_32 : decode cX12_set 32 = .ok (.iload_n 3, 1) := by decide +kernel
theorem dX12_set_33 : decode cX12_set 33 = .ok (.iload 4, 2) := by decide +kernel
theorem dX12_set_35 : decode cX12_set 35 = .ok (.invokevirtual 174, 3) := by decide +kernel
theorem dX12_set_38 : decode cX12_set 38 = .ok (.ifCond .eq 13, 3) := by decide +kernel
theorem dX12_set_41 : decode cX12_set 41 = .ok (.aload_n 0, 1) := by decide +kernel
theorem dX12_set_42 : decode cX12_set 42 = .ok (.iload_n 1, 1) := by decide +kernel
theorem dX12_set_43 : decode cX12_set 43 = .ok (.iload 5, 2) := by decide +kernel
theorem dX12_set_45 : decode cX12_set 45 = .ok (.invokevirtual 164, 3) := by decide +kernel
theorem dX12_set_48 : decode cX12_set 48 = .ok (.ifCond .ne 6, 3) := by decide +kernel
theorem dX12_set_54 : decode cX12_set 54 = .ok (.aload_n 0, 1) := by decide +kernel
theorem dX12_set_55 : decode cX12_set 55 = .ok (.iload_n 1, 1) := by decide +kernel
theorem dX12_set_56 : decode cX12_set 56 = .ok (.invokevirtual 153, 3) := by decide +kernel
theorem dX12_set_59 : decode cX12_set 59 = .ok (.aload_n 0, 1) := by decide +kernel
theorem dX12_set_60 : decode cX12_set 60 = .ok (.iload_n 1, 1) := by decide +kernel
theorem dX12_set_61 : decode cX12_set 61 = .ok (.iload_n 2, 1) := by decide +kernel
theorem dX12_set_62 : decode cX12_set 62 = .ok (.iload_n 3, 1) := by decide +kernel
theorem dX12_set_63 : decode cX12_set 63 = .ok (.iload 4, 2) := by decide +kernel
theorem dX12_set_65 : decode cX12_set 65 = .ok (.invokevirtual 136, 3) := by decide +kernel
theorem dX12_set_68 : decode cX12_set 68 = .ok (.istore 7, 2) := by decide +kernel
theorem dX12_set_70 : decode cX12_set 70 = .ok (.aload_n 0, 1) := by decide +kernel
theorem dX12_set_71 : decode cX12_set 71 = .ok (.getfield 25, 3) := by decide +kernel
theorem dX12_set_74 : decode cX12_set 74 = .ok (.iload 7, 2) := by decide +kernel
theorem dX12_set_76 : decode cX12_set 76 = .ok (.iaload, 1) := by decide +kernel
theorem dX12_set_77 : decode cX12_set 77 = .ok (.istore 8, 2) := by decide +kernel
theorem dX12_set_79 : decode cX12_set 79 = .ok (.aload_n 0, 1) := by decide +kernel
theorem dX12_set_80 : decode cX12_set 80 = .ok (.getfield 25, 3) := by decide +kernel
theorem dX12_set_83 : decode cX12_set 83 = .ok (.iload 7, 2) := by decide +kernel
theorem dX12_set_85 : decode cX12_set 85 = .ok (.iload 5, 2) := by decide +kernel
theorem dX12_set_87 : decode cX12_set 87 = .ok (.iastore, 1) := by decide +kernel
theorem dX12_set_88 : decode cX12_set 88 = .ok (.iload 8, 2) := by decide +kernel
theorem dX12_set_90 : decode cX12_set 90 = .ok (.ireturn, 1) := by decide +kernel
theorem dX12_set_51 : decode cX12_set 51 = .ok (.bipush (-3), 2) := by decide +kernel
theorem dX12_set_53 : decode cX12_set 53 = .ok (.ireturn, 1) := by decide +kernel
def fX12_set (F : Nat) (a0 : Nat) (a1 : Int) (a2 : Int) (a3 : Int) (a4 : Int) (a5 : Int) (h : HF) : RO :=
  zpf h a0 0 0 fun h =>
  zbd (fX12_refuse F a0 a1 h) fun r1 h =>
  if r1 = 0 then (
    zbd (fX12_isOp F a0 a1 a2 h) fun r2 h =>
    zjn (fun  (h : HF) => (
      some ((-3), h)
    )) fun j51 =>
    if r2 = 0 then (
      j51  h
    ) else (
      zbd (fX12_areElements F a0 a1 a2 a3 a4 h) fun r3 h =>
      if r3 = 0 then (
        j51  h
      ) else (
        zbd (fX12_isElement F a0 a1 a5 h) fun r4 h =>
        if r4 = 0 then (
          j51  h
        ) else (
          zbd (fX12_keep F a0 a1 h) fun _ h =>
          zbd (fX12_at F a0 a1 a2 a3 a4 h) fun r6 h =>
          zrd h (a0 + 6) r6 fun x7 =>
          zwr h (a0 + 6) r6 a5 fun h =>
          some (x7, h)
        )
      )
    )
  ) else (
    some (r1, h)
  )
set_option maxHeartbeats 4000000 in
set_option maxRecDepth 100000 in
theorem mX12_set (F : Nat) (l : Launch) (g : zG) (B : Nat) (h : HF) (a0 : Nat) (a1 : Int) (a2 : Int) (a3 : Int) (a4 : Int) (a5 : Int) (ra0 : kt a0 = 15) (ra1 : rng a1) (ra2 : rng a2) (ra3 : rng a3) (ra4 : rng a4) (ra5 : rng a5) : CTi l g B yX12_set cX12_set 9 (some .int) 2 [.ref (B + a0), .int (ii a1), .int (ii a2), .int (ii a3), .int (ii a4), .int (ii a5)] h (fX12_set F a0 a1 a2 a3 a4 a5 h) := by
  refine z_enterI (by decide) rfl (Nat.le_of_ble_eq_true rfl) ?_
  intro p e s m args below meth c ls o Q cx hp hl hf hQ
  have hl : lv_has ls 9 [(0, .ref (B + a0)), (1, .int (ii a1)), (2, .int (ii a2)), (3, .int (ii a3)), (4, .int (ii a4)), (5, .int (ii a5))] := hl
  unfold fX12_set at hf
  refine lv_aload_n cx.1 cx.2.1 dX12_set_0 rfl (lv_at hl 0 rfl) ?_
  refine z_iconst cx dX12_set_1 ?_
  refine z_puti cx hp (T := TX12) tyX12 tyX12_ok nmX12 12 0 (by decide) rfl zin_12 (by decide) (by decide) ra0 rfl rfl rfl fl_X12_115 dX12_set_2 hf (fun h H locs hp hf => ?_)
  refine lv_aload_n cx.1 cx.2.1 dX12_set_5 rfl (lv_at hl 0 rfl) ?_
  refine lv_iload_n cx.1 cx.2.1 dX12_set_6 rfl (lv_at hl 1 rfl) ?_
  refine z_ci cx hp (fun o' hx => zrunV (n := 2) (As := [.int (ii a1)]) (rest := []) cx hp (mX12_refuse F l g B h a0 a1 ra0 ra1 o' hx) 12 ra0 (by decide) rfl vw_X12_refuse ml_X12_168 (by decide) rfl hl.1 rfl (Nat.le_of_ble_eq_true rfl) dX12_set_7) hf (fun r1 h H locs rr1 hp hf => ?_)
  refine lv_istore (lv' := [(6, .int (ii r1)), (0, .ref (B + a0)), (1, .int (ii a1)), (2, .int (ii a2)), (3, .int (ii a3)), (4, .int (ii a4)), (5, .int (ii a5))]) cx.1 cx.2.1 dX12_set_10 hl (by decide) rfl (fun ls hl => ?_)
  refine lv_iload cx.1 cx.2.1 dX12_set_12 (lv_at hl 0 rfl) ?_
  refine z_if_eq cx rr1 (tgt := 20) dX12_set_14 (by decide) hf (fun _ hf => ?_) (fun _ hf => ?_)
  · refine lv_aload_n cx.1 cx.2.1 dX12_set_20 rfl (lv_at hl 1 rfl) ?_
    refine lv_iload_n cx.1 cx.2.1 dX12_set_21 rfl (lv_at hl 2 rfl) ?_
    refine lv_iload_n cx.1 cx.2.1 dX12_set_22 rfl (lv_at hl 3 rfl) ?_
    refine z_ci cx hp (fun o' hx => zrunV (n := 2) (As := [.int (ii a1), .int (ii a2)]) (rest := []) cx hp (mX12_isOp F l g B h a0 a1 a2 ra0 ra1 ra2 o' hx) 12 ra0 (by decide) rfl vw_X12_isOp ml_X12_171 (by decide) rfl hl.1 rfl (Nat.le_of_ble_eq_true rfl) dX12_set_23) hf (fun r2 h H locs rr2 hp hf => ?_)
    refine z_jn hf (fun j => ∀  (h : HF) (H : Heap) (locs : List Loc) (ls : Array Slot), Hp g B s h H locs → lv_has ls 9 [] → j  h = some o → W p l e (rmn 2) s m args below meth c H locs 0 0 Q (F0 m 51 ls [])) ?_ (fun j51 hj51 hf => ?_)
    · intro  h H locs ls  hp hl hf
      refine z_bipush cx (by decide) dX12_set_51 ?_
      rw [hQ]; exact z_iret cx hp (by decide) dX12_set_53 hf
    refine z_if_eq cx rr2 (tgt := 51) dX12_set_26 (by decide) hf (fun _ hf => ?_) (fun _ hf => ?_)
    · exact hj51  h _ _ ls  hp (lv_sub hl [] rfl) hf
    · refine lv_aload_n cx.1 cx.2.1 dX12_set_29 rfl (lv_at hl 1 rfl) ?_
      refine lv_iload_n cx.1 cx.2.1 dX12_set_30 rfl (lv_at hl 2 rfl) ?_
      refine lv_iload_n cx.1 cx.2.1 dX12_set_31 rfl (lv_at hl 3 rfl) ?_
      refine lv_iload_n cx.1 cx.2.1 dX12_set_32 rfl (lv_at hl 4 rfl) ?_
      refine lv_iload cx.1 cx.2.1 dX12_set_33 (lv_at hl 5 rfl) ?_
      refine z_ci cx hp (fun o' hx => zrunV (n := 2) (As := [.int (ii a1), .int (ii a2), .int (ii a3), .int (ii a4)]) (rest := []) cx hp (mX12_areElements F l g B h a0 a1 a2 a3 a4 ra0 ra1 ra2 ra3 ra4 o' hx) 12 ra0 (by decide) rfl vw_X12_areElements ml_X12_174 (by decide) rfl hl.1 rfl (Nat.le_of_ble_eq_true rfl) dX12_set_35) hf (fun r3 h H locs rr3 hp hf => ?_)
      refine z_if_eq cx rr3 (tgt := 51) dX12_set_38 (by decide) hf (fun _ hf => ?_) (fun _ hf => ?_)
      · exact hj51  h _ _ ls  hp (lv_sub hl [] rfl) hf
      · refine lv_aload_n cx.1 cx.2.1 dX12_set_41 rfl (lv_at hl 1 rfl) ?_
        refine lv_iload_n cx.1 cx.2.1 dX12_set_42 rfl (lv_at hl 2 rfl) ?_
        refine lv_iload cx.1 cx.2.1 dX12_set_43 (lv_at hl 6 rfl) ?_
        refine z_ci cx hp (fun o' hx => zrunV (n := 2) (As := [.int (ii a1), .int (ii a5)]) (rest := []) cx hp (mX12_isElement F l g B h a0 a1 a5 ra0 ra1 ra5 o' hx) 12 ra0 (by decide) rfl vw_X12_isElement ml_X12_164 (by decide) rfl hl.1 rfl (Nat.le_of_ble_eq_true rfl) dX12_set_45) hf (fun r4 h H locs rr4 hp hf => ?_)
        refine z_if_ne cx rr4 (tgt := 54) dX12_set_48 (by decide) hf (fun _ hf => ?_) (fun _ hf => ?_)
        · exact hj51  h _ _ ls  hp (lv_sub hl [] rfl) hf
        · refine lv_aload_n cx.1 cx.2.1 dX12_set_54 rfl (lv_at hl 1 rfl) ?_
          refine lv_iload_n cx.1 cx.2.1 dX12_set_55 rfl (lv_at hl 2 rfl) ?_
          refine z_cv cx hp (fun o' hx => zrunV (n := 2) (As := [.int (ii a1)]) (rest := []) cx hp (mX12_keep F l g B h a0 a1 ra0 ra1 o' hx) 12 ra0 (by decide) rfl vw_X12_keep ml_X12_153 (by decide) rfl hl.1 rfl (Nat.le_of_ble_eq_true rfl) dX12_set_56) hf (fun _ h H locs hp hf => ?_)
          refine lv_aload_n cx.1 cx.2.1 dX12_set_59 rfl (lv_at hl 1 rfl) ?_
          refine lv_iload_n cx.1 cx.2.1 dX12_set_60 rfl (lv_at hl 2 rfl) ?_
          refine lv_iload_n cx.1 cx.2.1 dX12_set_61 rfl (lv_at hl 3 rfl) ?_
          refine lv_iload_n cx.1 cx.2.1 dX12_set_62 rfl (lv_at hl 4 rfl) ?_
          refine lv_iload cx.1 cx.2.1 dX12_set_63 (lv_at hl 5 rfl) ?_
          refine z_ci cx hp (fun o' hx => zrunV (n := 2) (As := [.int (ii a1), .int (ii a2), .int (ii a3), .int (ii a4)]) (rest := []) cx hp (mX12_at F l g B h a0 a1 a2 a3 a4 ra0 ra1 ra2 ra3 ra4 o' hx) 12 ra0 (by decide) rfl vw_X12_at ml_X12_136 (by decide) rfl hl.1 rfl (Nat.le_of_ble_eq_true rfl) dX12_set_65) hf (fun r6 h H locs rr6 hp hf => ?_)
          refine lv_istore (lv' := [(7, .int (ii r6)), (6, .int (ii r1)), (0, .ref (B + a0)), (1, .int (ii a1)), (2, .int (ii a2)), (3, .int (ii a3)), (4, .int (ii a4)), (5, .int (ii a5))]) cx.1 cx.2.1 dX12_set_68 hl (by decide) rfl (fun ls hl => ?_)
          refine lv_aload_n cx.1 cx.2.1 dX12_set_70 rfl (lv_at hl 2 rfl) ?_
          refine z_gets cx hp (T := TX12) 12 9 (a0 + 6) rfl zin_12 (by decide) (by decide) ra0 rfl fl_X12_25 dX12_set_71 ?_
          refine lv_iload cx.1 cx.2.1 dX12_set_74 (lv_at hl 0 rfl) ?_
          refine z_iald cx hp (zs_12_9 a0 (kt_lt ra0 (by decide)) ra0) rr6 dX12_set_76 hf (fun x7 rx7 hf => ?_)
          refine lv_istore (lv' := [(8, .int (ii x7)), (7, .int (ii r6)), (6, .int (ii r1)), (0, .ref (B + a0)), (1, .int (ii a1)), (2, .int (ii a2)), (3, .int (ii a3)), (4, .int (ii a4)), (5, .int (ii a5))]) cx.1 cx.2.1 dX12_set_77 hl (by decide) rfl (fun ls hl => ?_)
          refine lv_aload_n cx.1 cx.2.1 dX12_set_79 rfl (lv_at hl 3 rfl) ?_
          refine z_gets cx hp (T := TX12) 12 9 (a0 + 6) rfl zin_12 (by decide) (by decide) ra0 rfl fl_X12_25 dX12_set_80 ?_
          refine lv_iload cx.1 cx.2.1 dX12_set_83 (lv_at hl 1 rfl) ?_
          refine lv_iload cx.1 cx.2.1 dX12_set_85 (lv_at hl 8 rfl) ?_
          refine z_iast cx hp (zs_12_9 a0 (kt_lt ra0 (by decide)) ra0) rr6 ra5 dX12_set_87 hf (fun h H locs hp hf => ?_)
          refine lv_iload cx.1 cx.2.1 dX12_set_88 (lv_at hl 0 rfl) ?_
          rw [hQ]; exact z_iret cx hp rx7 dX12_set_90 hf
  · refine lv_iload cx.1 cx.2.1 dX12_set_17 (lv_at hl 0 rfl) ?_
    rw [hQ]; exact z_iret cx hp rr1 dX12_set_19 hf
theorem dX12_cell_0 : decode cX12_cell 0 = .ok (.aload_n 0, 1) := by decide +kernel
theorem dX12_cell_1 : decode cX12_cell 1 = .ok (.iconst 0, 1) := by decide +kernel
theorem dX12_cell_2 : decode cX12_cell 2 = .ok (.putfield 115, 3) := by decide +kernel
theorem dX12_cell_5 : decode cX12_cell 5 = .ok (.aload_n 0, 1) := by decide +kernel
theorem dX12_cell_6 : decode cX12_cell 6 = .ok (.iload_n 1, 1) := by decide +kernel
theorem dX12_cell_7 : decode cX12_cell 7 = .ok (.invokevirtual 168, 3) := by decide +kernel
theorem dX12_cell_10 : decode cX12_cell 10 = .ok (.istore 6, 2) := by decide +kernel
theorem dX12_cell_12 : decode cX12_cell 12 = .ok (.iload 6, 2) := by decide +kernel
theorem dX12_cell_14 : decode cX12_cell 14 = .ok (.ifCond .eq 6, 3) := by decide +kernel
theorem dX12_cell_17 : decode cX12_cell 17 = .ok (.iload 6, 2) := by decide +kernel
theorem dX12_cell_19 : decode cX12_cell 19 = .ok (.ireturn, 1) := by decide +kernel
theorem dX12_cell_20 : decode cX12_cell 20 = .ok (.aload_n 0, 1) := by decide +kernel
theorem dX12_cell_21 : decode cX12_cell 21 = .ok (.iload_n 1, 1) := by decide +kernel
theorem dX12_cell_22 : decode cX12_cell 22 = .ok (.iload_n 2, 1) := by decide +kernel
theorem dX12_cell_23 : decode cX12_cell 23 = .ok (.invokevirtual 171, 3) := by decide +kernel
theorem dX12_cell_26 : decode cX12_cell 26 = .ok (.ifCond .eq 12, 3) := by decide +kernel
theorem dX12_cell_29 : decode cX12_cell 29 = .ok (.iload_n 3, 1) := by decide +kernel
theorem dX12_cell_30 : decode cX12_cell 30 = .ok (.ifCond .lt 8, 3) := by decide +kernel
theorem dX12_cell_33 : decode cX12_cell 33 = .ok (.iload_n 3, 1) := by decide +kernel
theorem dX12_cell_34 : decode cX12_cell 34 = .ok (.iconst 2, 1) := by decide +kernel
theorem dX12_cell_35 : decode cX12_cell 35 = .ok (.if_icmp .le 6, 3) := by decide +kernel
theorem dX12_cell_41 : decode cX12_cell 41 = .ok (.aload_n 0, 1) := by decide +kernel
theorem dX12_cell_42 : decode cX12_cell 42 = .ok (.iload_n 1, 1) := by decide +kernel
theorem dX12_cell_43 : decode cX12_cell 43 = .ok (.iload_n 2, 1) := by decide +kernel
theorem dX12_cell_44 : decode cX12_cell 44 = .ok (.invokevirtual 129, 3) := by decide +kernel
theorem dX12_cell_47 : decode cX12_cell 47 = .ok (.iload_n 3, 1) := by decide +kernel
theorem dX12_cell_48 : decode cX12_cell 48 = .ok (.if_icmp .eq 6, 3) := by decide +kernel
theorem dX12_cell_51 : decode cX12_cell 51 = .ok (.bipush (-12), 2) := by decide +kernel
theorem dX12_cell_53 : decode cX12_cell 53 = .ok (.ireturn, 1) := by decide +kernel
theorem dX12_cell_54 : decode cX12_cell 54 = .ok (.aload_n 0, 1) := by decide +kernel
theorem dX12_cell_55 : decode cX12_cell 55 = .ok (.iload_n 1, 1) := by decide +kernel
theorem dX12_cell_56 : decode cX12_cell 56 = .ok (.iload_n 2, 1) := by decide +kernel
theorem dX12_cell_57 : decode cX12_cell 57 = .ok (.iload 4, 2) := by decide +kernel
theorem dX12_cell_59 : decode cX12_cell 59 = .ok (.iload 5, 2) := by decide +kernel
theorem dX12_cell_61 : decode cX12_cell 61 = .ok (.invokevirtual 174, 3) := by decide +kernel
theorem dX12_cell_64 : decode cX12_cell 64 = .ok (.ifCond .eq 16, 3) := by decide +kernel
theorem dX12_cell_67 : decode cX12_cell 67 = .ok (.aload_n 0, 1) := by decide +kernel
theorem dX12_cell_68 : decode cX12_cell 68 = .ok (.iload_n 1, 1) := by decide +kernel
theorem dX12_cell_69 : decode cX12_cell 69 = .ok (.iload_n 2, 1) := by decide +kernel
theorem dX12_cell_70 : decode cX12_cell 70 = .ok (.iload 4, 2) := by decide +kernel
theorem dX12_cell_72 : decode cX12_cell 72 = .ok (.iload 5, 2) := by decide +kernel
theorem dX12_cell_74 : decode cX12_cell 74 = .ok (.invokevirtual 178, 3) := by decide +kernel
theorem dX12_cell_77 : decode cX12_cell 77 = .ok (.goto 5, 3) := by decide +kernel
theorem dX12_cell_80 : decode cX12_cell 80 = .ok (.bipush (-13), 2) := by decide +kernel
theorem dX12_cell_82 : decode cX12_cell 82 = .ok (.ireturn, 1) := by decide +kernel
theorem dX12_cell_38 : decode cX12_cell 38 = .ok (.bipush (-3), 2) := by decide +kernel
theorem dX12_cell_40 : decode cX12_cell 40 = .ok (.ireturn, 1) := by decide +kernel
def fX12_cell (F : Nat) (a0 : Nat) (a1 : Int) (a2 : Int) (a3 : Int) (a4 : Int) (a5 : Int) (h : HF) : RO :=
  zpf h a0 0 0 fun h =>
  zbd (fX12_refuse F a0 a1 h) fun r1 h =>
  if r1 = 0 then (
    zbd (fX12_isOp F a0 a1 a2 h) fun r2 h =>
    zjn (fun  (h : HF) => (
      some ((-3), h)
    )) fun j38 =>
    if r2 = 0 then (
      j38  h
    ) else (
      if a3 < 0 then (
        j38  h
      ) else (
        if 2 < a3 then (
          j38  h
        ) else (
          zbd (fX12_arity F a0 a1 a2 h) fun r3 h =>
          if r3 = a3 then (
            zbd (fX12_areElements F a0 a1 a2 a4 a5 h) fun r4 h =>
            zjn (fun (y82_0 : Int) (h : HF) => (
              some (y82_0, h)
            )) fun j82 =>
            if r4 = 0 then (
              j82 (-13) h
            ) else (
              zbd (fX12_value F a0 a1 a2 a4 a5 h) fun r5 h =>
              j82 r5 h
            )
          ) else (
            some ((-12), h)
          )
        )
      )
    )
  ) else (
    some (r1, h)
  )
set_option maxHeartbeats 4000000 in
set_option maxRecDepth 100000 in
theorem mX12_cell (F : Nat) (l : Launch) (g : zG) (B : Nat) (h : HF) (a0 : Nat) (a1 : Int) (a2 : Int) (a3 : Int) (a4 : Int) (a5 : Int) (ra0 : kt a0 = 15) (ra1 : rng a1) (ra2 : rng a2) (ra3 : rng a3) (ra4 : rng a4) (ra5 : rng a5) : CTi l g B yX12_cell cX12_cell 7 (some .int) 3 [.ref (B + a0), .int (ii a1), .int (ii a2), .int (ii a3), .int (ii a4), .int (ii a5)] h (fX12_cell F a0 a1 a2 a3 a4 a5 h) := by
  refine z_enterI (by decide) rfl (Nat.le_of_ble_eq_true rfl) ?_
  intro p e s m args below meth c ls o Q cx hp hl hf hQ
  have hl : lv_has ls 7 [(0, .ref (B + a0)), (1, .int (ii a1)), (2, .int (ii a2)), (3, .int (ii a3)), (4, .int (ii a4)), (5, .int (ii a5))] := hl
  unfold fX12_cell at hf
  refine lv_aload_n cx.1 cx.2.1 dX12_cell_0 rfl (lv_at hl 0 rfl) ?_
  refine z_iconst cx dX12_cell_1 ?_
  refine z_puti cx hp (T := TX12) tyX12 tyX12_ok nmX12 12 0 (by decide) rfl zin_12 (by decide) (by decide) ra0 rfl rfl rfl fl_X12_115 dX12_cell_2 hf (fun h H locs hp hf => ?_)
  refine lv_aload_n cx.1 cx.2.1 dX12_cell_5 rfl (lv_at hl 0 rfl) ?_
  refine lv_iload_n cx.1 cx.2.1 dX12_cell_6 rfl (lv_at hl 1 rfl) ?_
  refine z_ci cx hp (fun o' hx => zrunV (n := 3) (As := [.int (ii a1)]) (rest := []) cx hp (mX12_refuse F l g B h a0 a1 ra0 ra1 o' hx) 12 ra0 (by decide) rfl vw_X12_refuse ml_X12_168 (by decide) rfl hl.1 rfl (Nat.le_of_ble_eq_true rfl) dX12_cell_7) hf (fun r1 h H locs rr1 hp hf => ?_)
  refine lv_istore (lv' := [(6, .int (ii r1)), (0, .ref (B + a0)), (1, .int (ii a1)), (2, .int (ii a2)), (3, .int (ii a3)), (4, .int (ii a4)), (5, .int (ii a5))]) cx.1 cx.2.1 dX12_cell_10 hl (by decide) rfl (fun ls hl => ?_)
  refine lv_iload cx.1 cx.2.1 dX12_cell_12 (lv_at hl 0 rfl) ?_
  refine z_if_eq cx rr1 (tgt := 20) dX12_cell_14 (by decide) hf (fun _ hf => ?_) (fun _ hf => ?_)
  · refine lv_aload_n cx.1 cx.2.1 dX12_cell_20 rfl (lv_at hl 1 rfl) ?_
    refine lv_iload_n cx.1 cx.2.1 dX12_cell_21 rfl (lv_at hl 2 rfl) ?_
    refine lv_iload_n cx.1 cx.2.1 dX12_cell_22 rfl (lv_at hl 3 rfl) ?_
    refine z_ci cx hp (fun o' hx => zrunV (n := 3) (As := [.int (ii a1), .int (ii a2)]) (rest := []) cx hp (mX12_isOp F l g B h a0 a1 a2 ra0 ra1 ra2 o' hx) 12 ra0 (by decide) rfl vw_X12_isOp ml_X12_171 (by decide) rfl hl.1 rfl (Nat.le_of_ble_eq_true rfl) dX12_cell_23) hf (fun r2 h H locs rr2 hp hf => ?_)
    refine z_jn hf (fun j => ∀  (h : HF) (H : Heap) (locs : List Loc) (ls : Array Slot), Hp g B s h H locs → lv_has ls 7 [] → j  h = some o → W p l e (rmn 3) s m args below meth c H locs 0 0 Q (F0 m 38 ls [])) ?_ (fun j38 hj38 hf => ?_)
    · intro  h H locs ls  hp hl hf
      refine z_bipush cx (by decide) dX12_cell_38 ?_
      rw [hQ]; exact z_iret cx hp (by decide) dX12_cell_40 hf
    refine z_if_eq cx rr2 (tgt := 38) dX12_cell_26 (by decide) hf (fun _ hf => ?_) (fun _ hf => ?_)
    · exact hj38  h _ _ ls  hp (lv_sub hl [] rfl) hf
    · refine lv_iload_n cx.1 cx.2.1 dX12_cell_29 rfl (lv_at hl 4 rfl) ?_
      refine z_if_lt cx ra3 (tgt := 38) dX12_cell_30 (by decide) hf (fun _ hf => ?_) (fun _ hf => ?_)
      · exact hj38  h _ _ ls  hp (lv_sub hl [] rfl) hf
      · refine lv_iload_n cx.1 cx.2.1 dX12_cell_33 rfl (lv_at hl 4 rfl) ?_
        refine z_iconst cx dX12_cell_34 ?_
        refine z_icmp_le cx ra3 (by decide) (tgt := 41) dX12_cell_35 (by decide) hf (fun _ hf => ?_) (fun _ hf => ?_)
        · exact hj38  h _ _ ls  hp (lv_sub hl [] rfl) hf
        · refine lv_aload_n cx.1 cx.2.1 dX12_cell_41 rfl (lv_at hl 1 rfl) ?_
          refine lv_iload_n cx.1 cx.2.1 dX12_cell_42 rfl (lv_at hl 2 rfl) ?_
          refine lv_iload_n cx.1 cx.2.1 dX12_cell_43 rfl (lv_at hl 3 rfl) ?_
          refine z_ci cx hp (fun o' hx => zrunV (n := 3) (As := [.int (ii a1), .int (ii a2)]) (rest := []) cx hp (mX12_arity F l g B h a0 a1 a2 ra0 ra1 ra2 o' hx) 12 ra0 (by decide) rfl vw_X12_arity ml_X12_129 (by decide) rfl hl.1 rfl (Nat.le_of_ble_eq_true rfl) dX12_cell_44) hf (fun r3 h H locs rr3 hp hf => ?_)
          refine lv_iload_n cx.1 cx.2.1 dX12_cell_47 rfl (lv_at hl 4 rfl) ?_
          refine z_icmp_eq cx rr3 ra3 (tgt := 54) dX12_cell_48 (by decide) hf (fun _ hf => ?_) (fun _ hf => ?_)
          · refine lv_aload_n cx.1 cx.2.1 dX12_cell_54 rfl (lv_at hl 1 rfl) ?_
            refine lv_iload_n cx.1 cx.2.1 dX12_cell_55 rfl (lv_at hl 2 rfl) ?_
            refine lv_iload_n cx.1 cx.2.1 dX12_cell_56 rfl (lv_at hl 3 rfl) ?_
            refine lv_iload cx.1 cx.2.1 dX12_cell_57 (lv_at hl 5 rfl) ?_
            refine lv_iload cx.1 cx.2.1 dX12_cell_59 (lv_at hl 6 rfl) ?_
            refine z_ci cx hp (fun o' hx => zrunV (n := 3) (As := [.int (ii a1), .int (ii a2), .int (ii a4), .int (ii a5)]) (rest := []) cx hp (mX12_areElements F l g B h a0 a1 a2 a4 a5 ra0 ra1 ra2 ra4 ra5 o' hx) 12 ra0 (by decide) rfl vw_X12_areElements ml_X12_174 (by decide) rfl hl.1 rfl (Nat.le_of_ble_eq_true rfl) dX12_cell_61) hf (fun r4 h H locs rr4 hp hf => ?_)
            refine z_jn hf (fun j => ∀ (y82_0 : Int) (h : HF) (H : Heap) (locs : List Loc) (ls : Array Slot), rng y82_0 → Hp g B s h H locs → lv_has ls 7 [] → j y82_0 h = some o → W p l e (rmn 3) s m args below meth c H locs 0 0 Q (F0 m 82 ls [.int (ii y82_0)])) ?_ (fun j82 hj82 hf => ?_)
            · intro y82_0 h H locs ls ry82_0 hp hl hf
              rw [hQ]; exact z_iret cx hp ry82_0 dX12_cell_82 hf
            refine z_if_eq cx rr4 (tgt := 80) dX12_cell_64 (by decide) hf (fun _ hf => ?_) (fun _ hf => ?_)
            · refine z_bipush cx (by decide) dX12_cell_80 ?_
              exact hj82 (-13) h _ _ ls (by decide) hp (lv_sub hl [] rfl) hf
            · refine lv_aload_n cx.1 cx.2.1 dX12_cell_67 rfl (lv_at hl 1 rfl) ?_
              refine lv_iload_n cx.1 cx.2.1 dX12_cell_68 rfl (lv_at hl 2 rfl) ?_
              refine lv_iload_n cx.1 cx.2.1 dX12_cell_69 rfl (lv_at hl 3 rfl) ?_
              refine lv_iload cx.1 cx.2.1 dX12_cell_70 (lv_at hl 5 rfl) ?_
              refine lv_iload cx.1 cx.2.1 dX12_cell_72 (lv_at hl 6 rfl) ?_
              refine z_ci cx hp (fun o' hx => zrunV (n := 3) (As := [.int (ii a1), .int (ii a2), .int (ii a4), .int (ii a5)]) (rest := []) cx hp (mX12_value F l g B h a0 a1 a2 a4 a5 ra0 ra1 ra2 ra4 ra5 o' hx) 12 ra0 (by decide) rfl vw_X12_value ml_X12_178 (by decide) rfl hl.1 rfl (Nat.le_of_ble_eq_true rfl) dX12_cell_74) hf (fun r5 h H locs rr5 hp hf => ?_)
              refine lv_goto (tgt := 82) cx.1 cx.2.1 dX12_cell_77 (by decide) ?_
              exact hj82 r5 h _ _ ls rr5 hp (lv_sub hl [] rfl) hf
          · refine z_bipush cx (by decide) dX12_cell_51 ?_
            rw [hQ]; exact z_iret cx hp (by decide) dX12_cell_53 hf
  · refine lv_iload cx.1 cx.2.1 dX12_cell_17 (lv_at hl 0 rfl) ?_
    rw [hQ]; exact z_iret cx hp rr1 dX12_cell_19 hf
theorem dX12_about_0 : decode cX12_about 0 = .ok (.aload_n 0, 1) := by decide +kernel
theorem dX12_about_1 : decode cX12_about 1 = .ok (.iconst 0, 1) := by decide +kernel
theorem dX12_about_2 : decode cX12_about 2 = .ok (.putfield 115, 3) := by decide +kernel
theorem dX12_about_5 : decode cX12_about 5 = .ok (.aload_n 0, 1) := by decide +kernel
theorem dX12_about_6 : decode cX12_about 6 = .ok (.iload_n 1, 1) := by decide +kernel
theorem dX12_about_7 : decode cX12_about 7 = .ok (.invokevirtual 168, 3) := by decide +kernel
theorem dX12_about_10 : decode cX12_about 10 = .ok (.istore_n 3, 1) := by decide +kernel
theorem dX12_about_11 : decode cX12_about 11 = .ok (.iload_n 3, 1) := by decide +kernel
theorem dX12_about_12 : decode cX12_about 12 = .ok (.ifCond .eq 5, 3) := by decide +kernel
theorem dX12_about_15 : decode cX12_about 15 = .ok (.iload_n 3, 1) := by decide +kernel
theorem dX12_about_16 : decode cX12_about 16 = .ok (.ireturn, 1) := by decide +kernel
theorem dX12_about_17 : decode cX12_about 17 = .ok (.iconst 0, 1) := by decide +kernel
theorem dX12_about_18 : decode cX12_about 18 = .ok (.istore 4, 2) := by decide +kernel
theorem dX12_about_20 : decode cX12_about 20 = .ok (.iload_n 2, 1) := by decide +kernel
theorem dX12_about_21 : decode cX12_about 21 = .ok (.tableswitch 132 0 3 #[31, 38, 79, 85], 31) := by decide +kernel
theorem dX12_about_153 : decode cX12_about 153 = .ok (.bipush (-3), 2) := by decide +kernel
theorem dX12_about_155 : decode cX12_about 155 = .ok (.ireturn, 1) := by decide +kernel
theorem dX12_about_106 : decode cX12_about 106 = .ok (.iconst 0, 1) := by decide +kernel
theorem dX12_about_107 : decode cX12_about 107 = .ok (.istore 5, 2) := by decide +kernel
theorem dX12_about_109 : decode cX12_about 109 = .ok (.iload 5, 2) := by decide +kernel
theorem dX12_about_111 : decode cX12_about 111 = .ok (.aload_n 0, 1) := by decide +kernel
theorem dX12_about_112 : decode cX12_about 112 = .ok (.iload_n 1, 1) := by decide +kernel
theorem dX12_about_113 : decode cX12_about 113 = .ok (.invokevirtual 160, 3) := by decide +kernel
theorem dX12_about_116 : decode cX12_about 116 = .ok (.if_icmp .ge 34, 3) := by decide +kernel
theorem dX12_about_119 : decode cX12_about 119 = .ok (.iload 4, 2) := by decide +kernel
theorem dX12_about_121 : decode cX12_about 121 = .ok (.aload_n 0, 1) := by decide +kernel
theorem dX12_about_122 : decode cX12_about 122 = .ok (.getfield 25, 3) := by decide +kernel
theorem dX12_about_125 : decode cX12_about 125 = .ok (.aload_n 0, 1) := by decide +kernel
theorem dX12_about_126 : decode cX12_about 126 = .ok (.iload_n 1, 1) := by decide +kernel
theorem dX12_about_127 : decode cX12_about 127 = .ok (.iload 5, 2) := by decide +kernel
theorem dX12_about_129 : decode cX12_about 129 = .ok (.invokevirtual 184, 3) := by decide +kernel
theorem dX12_about_132 : decode cX12_about 132 = .ok (.iaload, 1) := by decide +kernel
theorem dX12_about_133 : decode cX12_about 133 = .ok (.ifCond .eq 7, 3) := by decide +kernel
theorem dX12_about_136 : decode cX12_about 136 = .ok (.iconst 1, 1) := by decide +kernel
theorem dX12_about_137 : decode cX12_about 137 = .ok (.goto 4, 3) := by decide +kernel
theorem dX12_about_140 : decode cX12_about 140 = .ok (.iconst 0, 1) := by decide +kernel
theorem dX12_about_141 : decode cX12_about 141 = .ok (.iadd, 1) := by decide +kernel
theorem dX12_about_142 : decode cX12_about 142 = .ok (.istore 4, 2) := by decide +kernel
theorem dX12_about_144 : decode cX12_about 144 = .ok (.iinc 5 1, 3) := by decide +kernel
theorem dX12_about_147 : decode cX12_about 147 = .ok (.goto (-38), 3) := by decide +kernel
theorem dX12_about_150 : decode cX12_about 150 = .ok (.iload 4, 2) := by decide +kernel
theorem dX12_about_152 : decode cX12_about 152 = .ok (.ireturn, 1) := by decide +kernel
theorem dX12_about_100 : decode cX12_about 100 = .ok (.aload_n 0, 1) := by decide +kernel
theorem dX12_about_101 : decode cX12_about 101 = .ok (.iload_n 1, 1) := by decide +kernel
theorem dX12_about_102 : decode cX12_about 102 = .ok (.invokevirtual 160, 3) := by decide +kernel
theorem dX12_about_105 : decode cX12_about 105 = .ok (.ireturn, 1) := by decide +kernel
theorem dX12_about_59 : decode cX12_about 59 = .ok (.aload_n 0, 1) := by decide +kernel
theorem dX12_about_60 : decode cX12_about 60 = .ok (.getfield 19, 3) := by decide +kernel
theorem dX12_about_63 : decode cX12_about 63 = .ok (.iload_n 1, 1) := by decide +kernel
theorem dX12_about_64 : decode cX12_about 64 = .ok (.iaload, 1) := by decide +kernel
theorem dX12_about_65 : decode cX12_about 65 = .ok (.iconst 1, 1) := by decide +kernel
theorem dX12_about_66 : decode cX12_about 66 = .ok (.isub, 1) := by decide +kernel
theorem dX12_about_67 : decode cX12_about 67 = .ok (.istore 5, 2) := by decide +kernel
theorem dX12_about_69 : decode cX12_about 69 = .ok (.iload 5, 2) := by decide +kernel
theorem dX12_about_71 : decode cX12_about 71 = .ok (.ifCond .lt 26, 3) := by decide +kernel
theorem dX12_about_74 : decode cX12_about 74 = .ok (.bipush 10, 2) := by decide +kernel
theorem dX12_about_76 : decode cX12_about 76 = .ok (.iload 4, 2) := by decide +kernel
theorem dX12_about_78 : decode cX12_about 78 = .ok (.imul, 1) := by decide +kernel
theorem dX12_about_79 : decode cX12_about 79 = .ok (.aload_n 0, 1) := by decide +kernel
theorem dX12_about_80 : decode cX12_about 80 = .ok (.iload_n 1, 1) := by decide +kernel
theorem dX12_about_81 : decode cX12_about 81 = .ok (.iload 5, 2) := by decide +kernel
theorem dX12_about_83 : decode cX12_about 83 = .ok (.invokevirtual 129, 3) := by decide +kernel
theorem dX12_about_86 : decode cX12_about 86 = .ok (.iadd, 1) := by decide +kernel
theorem dX12_about_87 : decode cX12_about 87 = .ok (.iconst 1, 1) := by decide +kernel
theorem dX12_about_88 : decode cX12_about 88 = .ok (.iadd, 1) := by decide +kernel
theorem dX12_about_89 : decode cX12_about 89 = .ok (.istore 4, 2) := by decide +kernel
theorem dX12_about_91 : decode cX12_about 91 = .ok (.iinc 5 (-1), 3) := by decide +kernel
theorem dX12_about_94 : decode cX12_about 94 = .ok (.goto (-25), 3) := by decide +kernel
theorem dX12_about_97 : decode cX12_about 97 = .ok (.iload 4, 2) := by decide +kernel
theorem dX12_about_99 : decode cX12_about 99 = .ok (.ireturn, 1) := by decide +kernel
theorem dX12_about_52 : decode cX12_about 52 = .ok (.aload_n 0, 1) := by decide +kernel
theorem dX12_about_53 : decode cX12_about 53 = .ok (.getfield 16, 3) := by decide +kernel
theorem dX12_about_56 : decode cX12_about 56 = .ok (.iload_n 1, 1) := by decide +kernel
theorem dX12_about_57 : decode cX12_about 57 = .ok (.iaload, 1) := by decide +kernel
theorem dX12_about_58 : decode cX12_about 58 = .ok (.ireturn, 1) := by decide +kernel
def LX12_about_69 (F : Nat) (u0 : Nat) (u1 : Int) (k97 : Int → HF → RO) : Nat → Int → Int → HF → RO
  | 0, _, _, _ => none
  | n + 1, v4, v5, h =>
    if v5 < 0 then (
      k97 v4 h
    ) else (
      zbd (fX12_arity F u0 u1 v5 h) fun r7 h =>
      zlet (wr ((wr ((wr (10 * v4)) + r7)) + 1)) fun x8 =>
      zlet (wr (v5 + (-1))) fun x9 =>
      LX12_about_69 F u0 u1 k97 n x8 x9 h
    )
set_option maxHeartbeats 4000000 in
set_option maxRecDepth 100000 in
theorem wX12_about_69 {p : Program} {l : Launch} {e : Env} {s : State} {m : MethodId} {args : Array Value} {below : List Frame} {meth : Method} {c : Code} {Q : State → Prop} {g : zG} {B : Nat} {o : Int × HF} (F : Nat) (cx : Cx p s m args meth c cX12_about 6 RX12 (some .int) g B) (u0 : Nat) (ru0 : kt u0 = 15) (u1 : Int) (ru1 : rng u1) (k97 : Int → HF → RO) (hk97 : ∀ (x4 : Int) (h : HF) (H : Heap) (locs : List Loc) (ls : Array Slot), rng x4 → Hp g B s h H locs → lv_has ls 6 [(4, .int (ii x4))] → k97 x4 h = some o → W p l e (rmn 2) s m args below meth c H locs 0 0 Q (F0 m 97 ls [])) : ∀ (n : Nat) (v4 : Int) (v5 : Int) (h : HF) (H : Heap) (locs : List Loc) (ls : Array Slot), rng v4 → rng v5 → Hp g B s h H locs → lv_has ls 6 [(0, .ref (B + u0)), (1, .int (ii u1)), (4, .int (ii v4)), (5, .int (ii v5))] → LX12_about_69 F u0 u1 k97 n v4 v5 h = some o → W p l e (rmn 2) s m args below meth c H locs 0 0 Q (F0 m 69 ls []) := by
  intro n
  induction n with
  | zero =>
    intro v4 v5 h H locs ls rv4 rv5 hp hl hf
    cases hf
  | succ n ih =>
    intro v4 v5 h H locs ls rv4 rv5 hp hl hf
    rw [LX12_about_69] at hf
    refine lv_iload cx.1 cx.2.1 dX12_about_69 (lv_at hl 3 rfl) ?_
    refine z_if_lt cx rv5 (tgt := 97) dX12_about_71 (by decide) hf (fun _ hf => ?_) (fun _ hf => ?_)
    · exact hk97 v4 h _ _ ls rv4 hp (lv_sub hl [2] rfl) hf
    · refine z_bipush cx (by decide) dX12_about_74 ?_
      refine lv_iload cx.1 cx.2.1 dX12_about_76 (lv_at hl 2 rfl) ?_
      refine z_imul cx dX12_about_78 ?_
      refine lv_aload_n cx.1 cx.2.1 dX12_about_79 rfl (lv_at hl 0 rfl) ?_
      refine lv_iload_n cx.1 cx.2.1 dX12_about_80 rfl (lv_at hl 1 rfl) ?_
      refine lv_iload cx.1 cx.2.1 dX12_about_81 (lv_at hl 3 rfl) ?_
      refine z_ci cx hp (fun o' hx => zrunV (n := 2) (As := [.int (ii u1), .int (ii v5)]) (rest := [.int (ii (wr (10 * v4)))]) cx hp (mX12_arity F l g B h u0 u1 v5 ru0 ru1 rv5 o' hx) 12 ru0 (by decide) rfl vw_X12_arity ml_X12_129 (by decide) rfl hl.1 rfl (Nat.le_of_ble_eq_true rfl) dX12_about_83) hf (fun r7 h H locs rr7 hp hf => ?_)
      refine z_iadd cx dX12_about_86 ?_
      refine z_iconst cx dX12_about_87 ?_
      refine z_iadd cx dX12_about_88 ?_
      refine z_let (rng_wr _) hf (fun x8 rx8 hf => ?_)
      refine lv_istore (lv' := [(4, .int (ii x8)), (0, .ref (B + u0)), (1, .int (ii u1)), (5, .int (ii v5))]) cx.1 cx.2.1 dX12_about_89 hl (by decide) rfl (fun ls hl => ?_)
      refine z_iinc cx (fun x9 => [(5, .int (ii x9)), (4, .int (ii x8)), (0, .ref (B + u0)), (1, .int (ii u1))]) dX12_about_91 hl (k := 3) rfl (by decide) (fun _ => rfl) hf (fun x9 rx9 hf ls hl => ?_)
      refine lv_goto (tgt := 69) cx.1 cx.2.1 dX12_about_94 (by decide) ?_
      exact ih x8 x9 h _ _ ls rx8 rx9 hp (lv_sub hl [2, 3, 1, 0] rfl) hf
def LX12_about_109 (F : Nat) (u0 : Nat) (u1 : Int) (k150 : Int → HF → RO) : Nat → Int → Int → HF → RO
  | 0, _, _, _ => none
  | n + 1, v4, v5, h =>
    zbd (fX12_cellsOf F u0 u1 h) fun r13 h =>
    if v5 < r13 then (
      zbd (fX12_lineAt F u0 u1 v5 h) fun r14 h =>
      zrd h (u0 + 6) r14 fun x15 =>
      zjn (fun (x141_5 : Int) (y141_0 : Int) (y141_1 : Int) (h : HF) => (
        zlet (wr (y141_1 + y141_0)) fun x16 =>
        zlet (wr (x141_5 + 1)) fun x17 =>
        LX12_about_109 F u0 u1 k150 n x16 x17 h
      )) fun j141 =>
      if x15 = 0 then (
        j141 v5 0 v4 h
      ) else (
        j141 v5 1 v4 h
      )
    ) else (
      k150 v4 h
    )
set_option maxHeartbeats 4000000 in
set_option maxRecDepth 100000 in
theorem wX12_about_109 {p : Program} {l : Launch} {e : Env} {s : State} {m : MethodId} {args : Array Value} {below : List Frame} {meth : Method} {c : Code} {Q : State → Prop} {g : zG} {B : Nat} {o : Int × HF} (F : Nat) (cx : Cx p s m args meth c cX12_about 6 RX12 (some .int) g B) (u0 : Nat) (ru0 : kt u0 = 15) (u1 : Int) (ru1 : rng u1) (k150 : Int → HF → RO) (hk150 : ∀ (x4 : Int) (h : HF) (H : Heap) (locs : List Loc) (ls : Array Slot), rng x4 → Hp g B s h H locs → lv_has ls 6 [(4, .int (ii x4))] → k150 x4 h = some o → W p l e (rmn 2) s m args below meth c H locs 0 0 Q (F0 m 150 ls [])) : ∀ (n : Nat) (v4 : Int) (v5 : Int) (h : HF) (H : Heap) (locs : List Loc) (ls : Array Slot), rng v4 → rng v5 → Hp g B s h H locs → lv_has ls 6 [(0, .ref (B + u0)), (1, .int (ii u1)), (4, .int (ii v4)), (5, .int (ii v5))] → LX12_about_109 F u0 u1 k150 n v4 v5 h = some o → W p l e (rmn 2) s m args below meth c H locs 0 0 Q (F0 m 109 ls []) := by
  intro n
  induction n with
  | zero =>
    intro v4 v5 h H locs ls rv4 rv5 hp hl hf
    cases hf
  | succ n ih =>
    intro v4 v5 h H locs ls rv4 rv5 hp hl hf
    rw [LX12_about_109] at hf
    refine lv_iload cx.1 cx.2.1 dX12_about_109 (lv_at hl 3 rfl) ?_
    refine lv_aload_n cx.1 cx.2.1 dX12_about_111 rfl (lv_at hl 0 rfl) ?_
    refine lv_iload_n cx.1 cx.2.1 dX12_about_112 rfl (lv_at hl 1 rfl) ?_
    refine z_ci cx hp (fun o' hx => zrunV (n := 2) (As := [.int (ii u1)]) (rest := [.int (ii v5)]) cx hp (mX12_cellsOf F l g B h u0 u1 ru0 ru1 o' hx) 12 ru0 (by decide) rfl vw_X12_cellsOf ml_X12_160 (by decide) rfl hl.1 rfl (Nat.le_of_ble_eq_true rfl) dX12_about_113) hf (fun r13 h H locs rr13 hp hf => ?_)
    refine z_icmp_ge cx rv5 rr13 (tgt := 150) dX12_about_116 (by decide) hf (fun _ hf => ?_) (fun _ hf => ?_)
    · refine lv_iload cx.1 cx.2.1 dX12_about_119 (lv_at hl 2 rfl) ?_
      refine lv_aload_n cx.1 cx.2.1 dX12_about_121 rfl (lv_at hl 0 rfl) ?_
      refine z_gets cx hp (T := TX12) 12 9 (u0 + 6) rfl zin_12 (by decide) (by decide) ru0 rfl fl_X12_25 dX12_about_122 ?_
      refine lv_aload_n cx.1 cx.2.1 dX12_about_125 rfl (lv_at hl 0 rfl) ?_
      refine lv_iload_n cx.1 cx.2.1 dX12_about_126 rfl (lv_at hl 1 rfl) ?_
      refine lv_iload cx.1 cx.2.1 dX12_about_127 (lv_at hl 3 rfl) ?_
      refine z_ci cx hp (fun o' hx => zrunV (n := 2) (As := [.int (ii u1), .int (ii v5)]) (rest := [.ref (B + (u0 + 6)), .int (ii v4)]) cx hp (mX12_lineAt F l g B h u0 u1 v5 ru0 ru1 rv5 o' hx) 12 ru0 (by decide) rfl vw_X12_lineAt ml_X12_184 (by decide) rfl hl.1 rfl (Nat.le_of_ble_eq_true rfl) dX12_about_129) hf (fun r14 h H locs rr14 hp hf => ?_)
      refine z_iald cx hp (zs_12_9 u0 (kt_lt ru0 (by decide)) ru0) rr14 dX12_about_132 hf (fun x15 rx15 hf => ?_)
      refine z_jn hf (fun j => ∀ (x141_5 : Int) (y141_0 : Int) (y141_1 : Int) (h : HF) (H : Heap) (locs : List Loc) (ls : Array Slot), rng x141_5 → rng y141_0 → rng y141_1 → Hp g B s h H locs → lv_has ls 6 [(0, .ref (B + u0)), (1, .int (ii u1)), (5, .int (ii x141_5))] → j x141_5 y141_0 y141_1 h = some o → W p l e (rmn 2) s m args below meth c H locs 0 0 Q (F0 m 141 ls [.int (ii y141_0), .int (ii y141_1)])) ?_ (fun j141 hj141 hf => ?_)
      · intro x141_5 y141_0 y141_1 h H locs ls rx141_5 ry141_0 ry141_1 hp hl hf
        refine z_iadd cx dX12_about_141 ?_
        refine z_let (rng_wr _) hf (fun x16 rx16 hf => ?_)
        refine lv_istore (lv' := [(4, .int (ii x16)), (0, .ref (B + u0)), (1, .int (ii u1)), (5, .int (ii x141_5))]) cx.1 cx.2.1 dX12_about_142 hl (by decide) rfl (fun ls hl => ?_)
        refine z_iinc cx (fun x17 => [(5, .int (ii x17)), (4, .int (ii x16)), (0, .ref (B + u0)), (1, .int (ii u1))]) dX12_about_144 hl (k := 3) rfl (by decide) (fun _ => rfl) hf (fun x17 rx17 hf ls hl => ?_)
        refine lv_goto (tgt := 109) cx.1 cx.2.1 dX12_about_147 (by decide) ?_
        exact ih x16 x17 h _ _ ls rx16 rx17 hp (lv_sub hl [2, 3, 1, 0] rfl) hf
      refine z_if_eq cx rx15 (tgt := 140) dX12_about_133 (by decide) hf (fun _ hf => ?_) (fun _ hf => ?_)
      · refine z_iconst cx dX12_about_140 ?_
        exact hj141 v5 0 v4 h _ _ ls rv5 (by decide) rv4 hp (lv_sub hl [0, 1, 3] rfl) hf
      · refine z_iconst cx dX12_about_136 ?_
        refine lv_goto (tgt := 141) cx.1 cx.2.1 dX12_about_137 (by decide) ?_
        exact hj141 v5 1 v4 h _ _ ls rv5 (by decide) rv4 hp (lv_sub hl [0, 1, 3] rfl) hf
    · exact hk150 v4 h _ _ ls rv4 hp (lv_sub hl [2] rfl) hf
def fX12_about (F : Nat) (a0 : Nat) (a1 : Int) (a2 : Int) (h : HF) : RO :=
  zpf h a0 0 0 fun h =>
  zbd (fX12_refuse F a0 a1 h) fun r1 h =>
  if r1 = 0 then (
    if a2 = 0 then (
      zrd h (a0 + 3) a1 fun x3 =>
      some (x3, h)
    ) else (
    if a2 = 1 then (
      zrd h (a0 + 4) a1 fun x5 =>
      zlet (wr (x5 - 1)) fun x6 =>
      zjn (fun (x97_4 : Int) (h : HF) => (
        some (x97_4, h)
      )) fun j97 =>
      LX12_about_69 F a0 a1 j97 F 0 x6 h
    ) else (
    if a2 = 2 then (
      zbd (fX12_cellsOf F a0 a1 h) fun r11 h =>
      some (r11, h)
    ) else (
    if a2 = 3 then (
      zjn (fun (x150_4 : Int) (h : HF) => (
        some (x150_4, h)
      )) fun j150 =>
      LX12_about_109 F a0 a1 j150 F 0 0 h
    ) else (
      some ((-3), h)
    )
    )
    )
    )
  ) else (
    some (r1, h)
  )
set_option maxHeartbeats 4000000 in
set_option maxRecDepth 100000 in
theorem mX12_about (F : Nat) (l : Launch) (g : zG) (B : Nat) (h : HF) (a0 : Nat) (a1 : Int) (a2 : Int) (ra0 : kt a0 = 15) (ra1 : rng a1) (ra2 : rng a2) : CTi l g B yX12_about cX12_about 6 (some .int) 2 [.ref (B + a0), .int (ii a1), .int (ii a2)] h (fX12_about F a0 a1 a2 h) := by
  refine z_enterI (by decide) rfl (Nat.le_of_ble_eq_true rfl) ?_
  intro p e s m args below meth c ls o Q cx hp hl hf hQ
  have hl : lv_has ls 6 [(0, .ref (B + a0)), (1, .int (ii a1)), (2, .int (ii a2))] := hl
  unfold fX12_about at hf
  refine lv_aload_n cx.1 cx.2.1 dX12_about_0 rfl (lv_at hl 0 rfl) ?_
  refine z_iconst cx dX12_about_1 ?_
  refine z_puti cx hp (T := TX12) tyX12 tyX12_ok nmX12 12 0 (by decide) rfl zin_12 (by decide) (by decide) ra0 rfl rfl rfl fl_X12_115 dX12_about_2 hf (fun h H locs hp hf => ?_)
  refine lv_aload_n cx.1 cx.2.1 dX12_about_5 rfl (lv_at hl 0 rfl) ?_
  refine lv_iload_n cx.1 cx.2.1 dX12_about_6 rfl (lv_at hl 1 rfl) ?_
  refine z_ci cx hp (fun o' hx => zrunV (n := 2) (As := [.int (ii a1)]) (rest := []) cx hp (mX12_refuse F l g B h a0 a1 ra0 ra1 o' hx) 12 ra0 (by decide) rfl vw_X12_refuse ml_X12_168 (by decide) rfl hl.1 rfl (Nat.le_of_ble_eq_true rfl) dX12_about_7) hf (fun r1 h H locs rr1 hp hf => ?_)
  refine lv_istore_n (lv' := [(3, .int (ii r1)), (0, .ref (B + a0)), (1, .int (ii a1)), (2, .int (ii a2))]) cx.1 cx.2.1 dX12_about_10 rfl hl (by decide) rfl (fun ls hl => ?_)
  refine lv_iload_n cx.1 cx.2.1 dX12_about_11 rfl (lv_at hl 0 rfl) ?_
  refine z_if_eq cx rr1 (tgt := 17) dX12_about_12 (by decide) hf (fun _ hf => ?_) (fun _ hf => ?_)
  · refine z_iconst cx dX12_about_17 ?_
    refine lv_istore (lv' := [(4, .int (ii 0)), (3, .int (ii r1)), (0, .ref (B + a0)), (1, .int (ii a1)), (2, .int (ii a2))]) cx.1 cx.2.1 dX12_about_18 hl (by decide) rfl (fun ls hl => ?_)
    refine lv_iload_n cx.1 cx.2.1 dX12_about_20 rfl (lv_at hl 4 rfl) ?_
    refine ite_inv hf (fun c2 hf => ?_) (fun c2 hf => ?_)
    · refine lv_tableIn (off := 31) (tgt := 52) cx.1 cx.2.1 dX12_about_21 (by rw [c2]; decide) (by rw [c2]; decide) (by rw [c2]; rfl) (by decide) ?_
      refine lv_aload_n cx.1 cx.2.1 dX12_about_52 rfl (lv_at hl 2 rfl) ?_
      refine z_gets cx hp (T := TX12) 12 6 (a0 + 3) rfl zin_12 (by decide) (by decide) ra0 rfl fl_X12_16 dX12_about_53 ?_
      refine lv_iload_n cx.1 cx.2.1 dX12_about_56 rfl (lv_at hl 3 rfl) ?_
      refine z_iald cx hp (zs_12_6 a0 (kt_lt ra0 (by decide)) ra0) ra1 dX12_about_57 hf (fun x3 rx3 hf => ?_)
      rw [hQ]; exact z_iret cx hp rx3 dX12_about_58 hf
    · refine ite_inv hf (fun c4 hf => ?_) (fun c4 hf => ?_)
      · refine lv_tableIn (off := 38) (tgt := 59) cx.1 cx.2.1 dX12_about_21 (by rw [c4]; decide) (by rw [c4]; decide) (by rw [c4]; rfl) (by decide) ?_
        refine lv_aload_n cx.1 cx.2.1 dX12_about_59 rfl (lv_at hl 2 rfl) ?_
        refine z_gets cx hp (T := TX12) 12 7 (a0 + 4) rfl zin_12 (by decide) (by decide) ra0 rfl fl_X12_19 dX12_about_60 ?_
        refine lv_iload_n cx.1 cx.2.1 dX12_about_63 rfl (lv_at hl 3 rfl) ?_
        refine z_iald cx hp (zs_12_7 a0 (kt_lt ra0 (by decide)) ra0) ra1 dX12_about_64 hf (fun x5 rx5 hf => ?_)
        refine z_iconst cx dX12_about_65 ?_
        refine z_isub cx dX12_about_66 ?_
        refine z_let (rng_wr _) hf (fun x6 rx6 hf => ?_)
        refine lv_istore (lv' := [(5, .int (ii x6)), (4, .int (ii 0)), (3, .int (ii r1)), (0, .ref (B + a0)), (1, .int (ii a1)), (2, .int (ii a2))]) cx.1 cx.2.1 dX12_about_67 hl (by decide) rfl (fun ls hl => ?_)
        refine z_jn hf (fun j => ∀ (x97_4 : Int) (h : HF) (H : Heap) (locs : List Loc) (ls : Array Slot), rng x97_4 → Hp g B s h H locs → lv_has ls 6 [(4, .int (ii x97_4))] → j x97_4 h = some o → W p l e (rmn 2) s m args below meth c H locs 0 0 Q (F0 m 97 ls [])) ?_ (fun j97 hj97 hf => ?_)
        · intro x97_4 h H locs ls rx97_4 hp hl hf
          refine lv_iload cx.1 cx.2.1 dX12_about_97 (lv_at hl 0 rfl) ?_
          rw [hQ]; exact z_iret cx hp rx97_4 dX12_about_99 hf
        exact wX12_about_69 F cx a0 ra0 a1 ra1 j97 hj97 F 0 x6 h _ _ ls (by decide) rx6 hp (lv_sub hl [3, 4, 1, 0] rfl) hf
      · refine ite_inv hf (fun c10 hf => ?_) (fun c10 hf => ?_)
        · refine lv_tableIn (off := 79) (tgt := 100) cx.1 cx.2.1 dX12_about_21 (by rw [c10]; decide) (by rw [c10]; decide) (by rw [c10]; rfl) (by decide) ?_
          refine lv_aload_n cx.1 cx.2.1 dX12_about_100 rfl (lv_at hl 2 rfl) ?_
          refine lv_iload_n cx.1 cx.2.1 dX12_about_101 rfl (lv_at hl 3 rfl) ?_
          refine z_ci cx hp (fun o' hx => zrunV (n := 2) (As := [.int (ii a1)]) (rest := []) cx hp (mX12_cellsOf F l g B h a0 a1 ra0 ra1 o' hx) 12 ra0 (by decide) rfl vw_X12_cellsOf ml_X12_160 (by decide) rfl hl.1 rfl (Nat.le_of_ble_eq_true rfl) dX12_about_102) hf (fun r11 h H locs rr11 hp hf => ?_)
          rw [hQ]; exact z_iret cx hp rr11 dX12_about_105 hf
        · refine ite_inv hf (fun c12 hf => ?_) (fun c12 hf => ?_)
          · refine lv_tableIn (off := 85) (tgt := 106) cx.1 cx.2.1 dX12_about_21 (by rw [c12]; decide) (by rw [c12]; decide) (by rw [c12]; rfl) (by decide) ?_
            refine z_iconst cx dX12_about_106 ?_
            refine lv_istore (lv' := [(5, .int (ii 0)), (4, .int (ii 0)), (3, .int (ii r1)), (0, .ref (B + a0)), (1, .int (ii a1)), (2, .int (ii a2))]) cx.1 cx.2.1 dX12_about_107 hl (by decide) rfl (fun ls hl => ?_)
            refine z_jn hf (fun j => ∀ (x150_4 : Int) (h : HF) (H : Heap) (locs : List Loc) (ls : Array Slot), rng x150_4 → Hp g B s h H locs → lv_has ls 6 [(4, .int (ii x150_4))] → j x150_4 h = some o → W p l e (rmn 2) s m args below meth c H locs 0 0 Q (F0 m 150 ls [])) ?_ (fun j150 hj150 hf => ?_)
            · intro x150_4 h H locs ls rx150_4 hp hl hf
              refine lv_iload cx.1 cx.2.1 dX12_about_150 (lv_at hl 0 rfl) ?_
              rw [hQ]; exact z_iret cx hp rx150_4 dX12_about_152 hf
            exact wX12_about_109 F cx a0 ra0 a1 ra1 j150 hj150 F 0 0 h _ _ ls (by decide) (by decide) hp (lv_sub hl [3, 4, 1, 0] rfl) hf
          · refine lv_tableOut (tgt := 153) cx.1 cx.2.1 dX12_about_21 (by rw [ii_ti ra2]; omega) (by decide) ?_
            refine z_bipush cx (by decide) dX12_about_153 ?_
            rw [hQ]; exact z_iret cx hp (by decide) dX12_about_155 hf
  · refine lv_iload_n cx.1 cx.2.1 dX12_about_15 rfl (lv_at hl 0 rfl) ?_
    rw [hQ]; exact z_iret cx hp rr1 dX12_about_16 hf
theorem dX12_drop_0 : decode cX12_drop 0 = .ok (.aload_n 0, 1) := by decide +kernel
theorem dX12_drop_1 : decode cX12_drop 1 = .ok (.iconst 0, 1) := by decide +kernel
theorem dX12_drop_2 : decode cX12_drop 2 = .ok (.putfield 115, 3) := by decide +kernel
theorem dX12_drop_5 : decode cX12_drop 5 = .ok (.aload_n 0, 1) := by decide +kernel
theorem dX12_drop_6 : decode cX12_drop 6 = .ok (.iload_n 1, 1) := by decide +kernel
theorem dX12_drop_7 : decode cX12_drop 7 = .ok (.invokevirtual 168, 3) := by decide +kernel
theorem dX12_drop_10 : decode cX12_drop 10 = .ok (.istore_n 2, 1) := by decide +kernel
theorem dX12_drop_11 : decode cX12_drop 11 = .ok (.iload_n 2, 1) := by decide +kernel
theorem dX12_drop_12 : decode cX12_drop 12 = .ok (.ifCond .eq 5, 3) := by decide +kernel
theorem dX12_drop_15 : decode cX12_drop 15 = .ok (.iload_n 2, 1) := by decide +kernel
theorem dX12_drop_16 : decode cX12_drop 16 = .ok (.ireturn, 1) := by decide +kernel
theorem dX12_drop_17 : decode cX12_drop 17 = .ok (.aload_n 0, 1) := by decide +kernel
theorem dX12_drop_18 : decode cX12_drop 18 = .ok (.iload_n 1, 1) := by decide +kernel
theorem dX12_drop_19 : decode cX12_drop 19 = .ok (.invokevirtual 153, 3) := by decide +kernel
theorem dX12_drop_22 : decode cX12_drop 22 = .ok (.aload_n 0, 1) := by decide +kernel
theorem dX12_drop_23 : decode cX12_drop 23 = .ok (.getfield 16, 3) := by decide +kernel
theorem dX12_drop_26 : decode cX12_drop 26 = .ok (.iload_n 1, 1) := by decide +kernel
theorem dX12_drop_27 : decode cX12_drop 27 = .ok (.iconst 0, 1) := by decide +kernel
theorem dX12_drop_28 : decode cX12_drop 28 = .ok (.iastore, 1) := by decide +kernel
theorem dX12_drop_29 : decode cX12_drop 29 = .ok (.iconst 1, 1) := by decide +kernel
theorem dX12_drop_30 : decode cX12_drop 30 = .ok (.ireturn, 1) := by decide +kernel
def fX12_drop (F : Nat) (a0 : Nat) (a1 : Int) (h : HF) : RO :=
  zpf h a0 0 0 fun h =>
  zbd (fX12_refuse F a0 a1 h) fun r1 h =>
  if r1 = 0 then (
    zbd (fX12_keep F a0 a1 h) fun _ h =>
    zwr h (a0 + 3) a1 0 fun h =>
    some (1, h)
  ) else (
    some (r1, h)
  )
set_option maxHeartbeats 4000000 in
set_option maxRecDepth 100000 in
theorem mX12_drop (F : Nat) (l : Launch) (g : zG) (B : Nat) (h : HF) (a0 : Nat) (a1 : Int) (ra0 : kt a0 = 15) (ra1 : rng a1) : CTi l g B yX12_drop cX12_drop 3 (some .int) 2 [.ref (B + a0), .int (ii a1)] h (fX12_drop F a0 a1 h) := by
  refine z_enterI (by decide) rfl (Nat.le_of_ble_eq_true rfl) ?_
  intro p e s m args below meth c ls o Q cx hp hl hf hQ
  have hl : lv_has ls 3 [(0, .ref (B + a0)), (1, .int (ii a1))] := hl
  unfold fX12_drop at hf
  refine lv_aload_n cx.1 cx.2.1 dX12_drop_0 rfl (lv_at hl 0 rfl) ?_
  refine z_iconst cx dX12_drop_1 ?_
  refine z_puti cx hp (T := TX12) tyX12 tyX12_ok nmX12 12 0 (by decide) rfl zin_12 (by decide) (by decide) ra0 rfl rfl rfl fl_X12_115 dX12_drop_2 hf (fun h H locs hp hf => ?_)
  refine lv_aload_n cx.1 cx.2.1 dX12_drop_5 rfl (lv_at hl 0 rfl) ?_
  refine lv_iload_n cx.1 cx.2.1 dX12_drop_6 rfl (lv_at hl 1 rfl) ?_
  refine z_ci cx hp (fun o' hx => zrunV (n := 2) (As := [.int (ii a1)]) (rest := []) cx hp (mX12_refuse F l g B h a0 a1 ra0 ra1 o' hx) 12 ra0 (by decide) rfl vw_X12_refuse ml_X12_168 (by decide) rfl hl.1 rfl (Nat.le_of_ble_eq_true rfl) dX12_drop_7) hf (fun r1 h H locs rr1 hp hf => ?_)
  refine lv_istore_n (lv' := [(2, .int (ii r1)), (0, .ref (B + a0)), (1, .int (ii a1))]) cx.1 cx.2.1 dX12_drop_10 rfl hl (by decide) rfl (fun ls hl => ?_)
  refine lv_iload_n cx.1 cx.2.1 dX12_drop_11 rfl (lv_at hl 0 rfl) ?_
  refine z_if_eq cx rr1 (tgt := 17) dX12_drop_12 (by decide) hf (fun _ hf => ?_) (fun _ hf => ?_)
  · refine lv_aload_n cx.1 cx.2.1 dX12_drop_17 rfl (lv_at hl 1 rfl) ?_
    refine lv_iload_n cx.1 cx.2.1 dX12_drop_18 rfl (lv_at hl 2 rfl) ?_
    refine z_cv cx hp (fun o' hx => zrunV (n := 2) (As := [.int (ii a1)]) (rest := []) cx hp (mX12_keep F l g B h a0 a1 ra0 ra1 o' hx) 12 ra0 (by decide) rfl vw_X12_keep ml_X12_153 (by decide) rfl hl.1 rfl (Nat.le_of_ble_eq_true rfl) dX12_drop_19) hf (fun _ h H locs hp hf => ?_)
    refine lv_aload_n cx.1 cx.2.1 dX12_drop_22 rfl (lv_at hl 1 rfl) ?_
    refine z_gets cx hp (T := TX12) 12 6 (a0 + 3) rfl zin_12 (by decide) (by decide) ra0 rfl fl_X12_16 dX12_drop_23 ?_
    refine lv_iload_n cx.1 cx.2.1 dX12_drop_26 rfl (lv_at hl 2 rfl) ?_
    refine z_iconst cx dX12_drop_27 ?_
    refine z_iast cx hp (zs_12_6 a0 (kt_lt ra0 (by decide)) ra0) ra1 (by decide) dX12_drop_28 hf (fun h H locs hp hf => ?_)
    refine z_iconst cx dX12_drop_29 ?_
    rw [hQ]; exact z_iret cx hp (by decide) dX12_drop_30 hf
  · refine lv_iload_n cx.1 cx.2.1 dX12_drop_15 rfl (lv_at hl 0 rfl) ?_
    rw [hQ]; exact z_iret cx hp rr1 dX12_drop_16 hf
theorem dX12_say_0 : decode cX12_say 0 = .ok (.aload_n 0, 1) := by decide +kernel
theorem dX12_say_1 : decode cX12_say 1 = .ok (.getfield 13, 3) := by decide +kernel
theorem dX12_say_4 : decode cX12_say 4 = .ok (.aload_n 0, 1) := by decide +kernel
theorem dX12_say_5 : decode cX12_say 5 = .ok (.getfield 126, 3) := by decide +kernel
theorem dX12_say_8 : decode cX12_say 8 = .ok (.iload_n 1, 1) := by decide +kernel
theorem dX12_say_9 : decode cX12_say 9 = .ok (.iastore, 1) := by decide +kernel
theorem dX12_say_10 : decode cX12_say 10 = .ok (.aload_n 0, 1) := by decide +kernel
theorem dX12_say_11 : decode cX12_say 11 = .ok (.dup, 1) := by decide +kernel
theorem dX12_say_12 : decode cX12_say 12 = .ok (.getfield 126, 3) := by decide +kernel
theorem dX12_say_15 : decode cX12_say 15 = .ok (.iconst 1, 1) := by decide +kernel
theorem dX12_say_16 : decode cX12_say 16 = .ok (.iadd, 1) := by decide +kernel
theorem dX12_say_17 : decode cX12_say 17 = .ok (.putfield 126, 3) := by decide +kernel
theorem dX12_say_20 : decode cX12_say 20 = .ok (.return_, 1) := by decide +kernel
def fX12_say (F : Nat) (a0 : Nat) (a1 : Int) (h : HF) : RO :=
  zgf h a0 4 fun x1 =>
  zwr h (a0 + 2) x1 a1 fun h =>
  zgf h a0 4 fun x2 =>
  zpf h a0 4 (wr (x2 + 1)) fun h =>
  some (0, h)
set_option maxHeartbeats 4000000 in
set_option maxRecDepth 100000 in
theorem mX12_say (F : Nat) (l : Launch) (g : zG) (B : Nat) (h : HF) (a0 : Nat) (a1 : Int) (ra0 : kt a0 = 15) (ra1 : rng a1) : CTv l g B yX12_say cX12_say 2 0 [.ref (B + a0), .int (ii a1)] h (fX12_say F a0 a1 h) := by
  refine z_enterV (by decide) rfl (Nat.le_of_ble_eq_true rfl) ?_
  intro p e s m args below meth c ls o Q cx hp hl hf hQ
  have hl : lv_has ls 2 [(0, .ref (B + a0)), (1, .int (ii a1))] := hl
  unfold fX12_say at hf
  refine lv_aload_n cx.1 cx.2.1 dX12_say_0 rfl (lv_at hl 0 rfl) ?_
  refine z_gets cx hp (T := TX12) 12 3 (a0 + 2) rfl zin_12 (by decide) (by decide) ra0 rfl fl_X12_13 dX12_say_1 ?_
  refine lv_aload_n cx.1 cx.2.1 dX12_say_4 rfl (lv_at hl 0 rfl) ?_
  refine z_geti cx hp (T := TX12) 12 4 rfl zin_12 (by decide) (by decide) ra0 rfl fl_X12_126 dX12_say_5 hf (fun x1 rx1 hf => ?_)
  refine lv_iload_n cx.1 cx.2.1 dX12_say_8 rfl (lv_at hl 1 rfl) ?_
  refine z_iast cx hp (zs_12_3 a0 (kt_lt ra0 (by decide)) ra0) rx1 ra1 dX12_say_9 hf (fun h H locs hp hf => ?_)
  refine lv_aload_n cx.1 cx.2.1 dX12_say_10 rfl (lv_at hl 0 rfl) ?_
  refine lv_dup cx.1 cx.2.1 dX12_say_11 rfl ?_
  refine z_geti cx hp (T := TX12) 12 4 rfl zin_12 (by decide) (by decide) ra0 rfl fl_X12_126 dX12_say_12 hf (fun x2 rx2 hf => ?_)
  refine z_iconst cx dX12_say_15 ?_
  refine z_iadd cx dX12_say_16 ?_
  refine z_puti cx hp (T := TX12) tyX12 tyX12_ok nmX12 12 4 (rng_wr _) rfl zin_12 (by decide) (by decide) ra0 rfl rfl rfl fl_X12_126 dX12_say_17 hf (fun h H locs hp hf => ?_)
  rw [hQ]; exact z_vret cx hp dX12_say_20 hf
theorem dX12_tell_0 : decode cX12_tell 0 = .ok (.aload_n 0, 1) := by decide +kernel
theorem dX12_tell_1 : decode cX12_tell 1 = .ok (.iconst 0, 1) := by decide +kernel
theorem dX12_tell_2 : decode cX12_tell 2 = .ok (.putfield 115, 3) := by decide +kernel
theorem dX12_tell_5 : decode cX12_tell 5 = .ok (.aload_n 0, 1) := by decide +kernel
theorem dX12_tell_6 : decode cX12_tell 6 = .ok (.iload_n 1, 1) := by decide +kernel
theorem dX12_tell_7 : decode cX12_tell 7 = .ok (.invokevirtual 168, 3) := by decide +kernel
theorem dX12_tell_10 : decode cX12_tell 10 = .ok (.istore_n 2, 1) := by decide +kernel
theorem dX12_tell_11 : decode cX12_tell 11 = .ok (.iload_n 2, 1) := by decide +kernel
theorem dX12_tell_12 : decode cX12_tell 12 = .ok (.ifCond .eq 5, 3) := by decide +kernel
theorem dX12_tell_15 : decode cX12_tell 15 = .ok (.iload_n 2, 1) := by decide +kernel
theorem dX12_tell_16 : decode cX12_tell 16 = .ok (.ireturn, 1) := by decide +kernel
theorem dX12_tell_17 : decode cX12_tell 17 = .ok (.aload_n 0, 1) := by decide +kernel
theorem dX12_tell_18 : decode cX12_tell 18 = .ok (.iconst 0, 1) := by decide +kernel
theorem dX12_tell_19 : decode cX12_tell 19 = .ok (.putfield 126, 3) := by decide +kernel
theorem dX12_tell_22 : decode cX12_tell 22 = .ok (.aload_n 0, 1) := by decide +kernel
theorem dX12_tell_23 : decode cX12_tell 23 = .ok (.bipush 48, 2) := by decide +kernel
theorem dX12_tell_25 : decode cX12_tell 25 = .ok (.aload_n 0, 1) := by decide +kernel
theorem dX12_tell_26 : decode cX12_tell 26 = .ok (.getfield 16, 3) := by decide +kernel
theorem dX12_tell_29 : decode cX12_tell 29 = .ok (.iload_n 1, 1) := by decide +kernel
theorem dX12_tell_30 : decode cX12_tell 30 = .ok (.iaload, 1) := by decide +kernel
theorem dX12_tell_31 : decode cX12_tell 31 = .ok (.iadd, 1) := by decide +kernel
theorem dX12_tell_32 : decode cX12_tell 32 = .ok (.invokevirtual 187, 3) := by decide +kernel
theorem dX12_tell_35 : decode cX12_tell 35 = .ok (.iconst 0, 1) := by decide +kernel
theorem dX12_tell_36 : decode cX12_tell 36 = .ok (.istore_n 3, 1) := by decide +kernel
theorem dX12_tell_37 : decode cX12_tell 37 = .ok (.iload_n 3, 1) := by decide +kernel
theorem dX12_tell_38 : decode cX12_tell 38 = .ok (.aload_n 0, 1) := by decide +kernel
theorem dX12_tell_39 : decode cX12_tell 39 = .ok (.getfield 19, 3) := by decide +kernel
theorem dX12_tell_42 : decode cX12_tell 42 = .ok (.iload_n 1, 1) := by decide +kernel
theorem dX12_tell_43 : decode cX12_tell 43 = .ok (.iaload, 1) := by decide +kernel
theorem dX12_tell_44 : decode cX12_tell 44 = .ok (.if_icmp .ge 100, 3) := by decide +kernel
theorem dX12_tell_47 : decode cX12_tell 47 = .ok (.aload_n 0, 1) := by decide +kernel
theorem dX12_tell_48 : decode cX12_tell 48 = .ok (.iload_n 1, 1) := by decide +kernel
theorem dX12_tell_49 : decode cX12_tell 49 = .ok (.iload_n 3, 1) := by decide +kernel
theorem dX12_tell_50 : decode cX12_tell 50 = .ok (.invokevirtual 129, 3) := by decide +kernel
theorem dX12_tell_53 : decode cX12_tell 53 = .ok (.istore 4, 2) := by decide +kernel
theorem dX12_tell_55 : decode cX12_tell 55 = .ok (.aload_n 0, 1) := by decide +kernel
theorem dX12_tell_56 : decode cX12_tell 56 = .ok (.bipush 59, 2) := by decide +kernel
theorem dX12_tell_58 : decode cX12_tell 58 = .ok (.invokevirtual 187, 3) := by decide +kernel
theorem dX12_tell_61 : decode cX12_tell 61 = .ok (.aload_n 0, 1) := by decide +kernel
theorem dX12_tell_62 : decode cX12_tell 62 = .ok (.iload 4, 2) := by decide +kernel
theorem dX12_tell_64 : decode cX12_tell 64 = .ok (.ifCond .ne 8, 3) := by decide +kernel
theorem dX12_tell_67 : decode cX12_tell 67 = .ok (.bipush 99, 2) := by decide +kernel
theorem dX12_tell_69 : decode cX12_tell 69 = .ok (.goto 16, 3) := by decide +kernel
theorem dX12_tell_72 : decode cX12_tell 72 = .ok (.iload 4, 2) := by decide +kernel
theorem dX12_tell_74 : decode cX12_tell 74 = .ok (.iconst 1, 1) := by decide +kernel
theorem dX12_tell_75 : decode cX12_tell 75 = .ok (.if_icmp .ne 8, 3) := by decide +kernel
theorem dX12_tell_78 : decode cX12_tell 78 = .ok (.bipush 117, 2) := by decide +kernel
theorem dX12_tell_80 : decode cX12_tell 80 = .ok (.goto 5, 3) := by decide +kernel
theorem dX12_tell_83 : decode cX12_tell 83 = .ok (.bipush 98, 2) := by decide +kernel
theorem dX12_tell_85 : decode cX12_tell 85 = .ok (.invokevirtual 187, 3) := by decide +kernel
theorem dX12_tell_88 : decode cX12_tell 88 = .ok (.iconst 0, 1) := by decide +kernel
theorem dX12_tell_89 : decode cX12_tell 89 = .ok (.istore 5, 2) := by decide +kernel
theorem dX12_tell_91 : decode cX12_tell 91 = .ok (.iload 5, 2) := by decide +kernel
theorem dX12_tell_93 : decode cX12_tell 93 = .ok (.aload_n 0, 1) := by decide +kernel
theorem dX12_tell_94 : decode cX12_tell 94 = .ok (.getfield 16, 3) := by decide +kernel
theorem dX12_tell_97 : decode cX12_tell 97 = .ok (.iload_n 1, 1) := by decide +kernel
theorem dX12_tell_98 : decode cX12_tell 98 = .ok (.iaload, 1) := by decide +kernel
theorem dX12_tell_99 : decode cX12_tell 99 = .ok (.iload 4, 2) := by decide +kernel
theorem dX12_tell_101 : decode cX12_tell 101 = .ok (.invokestatic 133, 3) := by decide +kernel
theorem dX12_tell_104 : decode cX12_tell 104 = .ok (.if_icmp .ge 34, 3) := by decide +kernel
theorem dX12_tell_107 : decode cX12_tell 107 = .ok (.aload_n 0, 1) := by decide +kernel
theorem dX12_tell_108 : decode cX12_tell 108 = .ok (.bipush 48, 2) := by decide +kernel
theorem dX12_tell_110 : decode cX12_tell 110 = .ok (.aload_n 0, 1) := by decide +kernel
theorem dX12_tell_111 : decode cX12_tell 111 = .ok (.getfield 25, 3) := by decide +kernel
theorem dX12_tell_114 : decode cX12_tell 114 = .ok (.sipush 196, 3) := by decide +kernel
theorem dX12_tell_117 : decode cX12_tell 117 = .ok (.iload_n 1, 1) := by decide +kernel
theorem dX12_tell_118 : decode cX12_tell 118 = .ok (.imul, 1) := by decide +kernel
theorem dX12_tell_119 : decode cX12_tell 119 = .ok (.bipush 49, 2) := by decide +kernel
theorem dX12_tell_121 : decode cX12_tell 121 = .ok (.iload_n 3, 1) := by decide +kernel
theorem dX12_tell_122 : decode cX12_tell 122 = .ok (.imul, 1) := by decide +kernel
theorem dX12_tell_123 : decode cX12_tell 123 = .ok (.iadd, 1) := by decide +kernel
theorem dX12_tell_124 : decode cX12_tell 124 = .ok (.iload 5, 2) := by decide +kernel
theorem dX12_tell_126 : decode cX12_tell 126 = .ok (.iadd, 1) := by decide +kernel
theorem dX12_tell_127 : decode cX12_tell 127 = .ok (.iaload, 1) := by decide +kernel
theorem dX12_tell_128 : decode cX12_tell 128 = .ok (.iadd, 1) := by decide +kernel
theorem dX12_tell_129 : decode cX12_tell 129 = .ok (.invokevirtual 187, 3) := by decide +kernel
theorem dX12_tell_132 : decode cX12_tell 132 = .ok (.iinc 5 1, 3) := by decide +kernel
theorem dX12_tell_135 : decode cX12_tell 135 = .ok (.goto (-44), 3) := by decide +kernel
theorem dX12_tell_138 : decode cX12_tell 138 = .ok (.iinc 3 1, 3) := by decide +kernel
theorem dX12_tell_141 : decode cX12_tell 141 = .ok (.goto (-104), 3) := by decide +kernel
theorem dX12_tell_144 : decode cX12_tell 144 = .ok (.aload_n 0, 1) := by decide +kernel
theorem dX12_tell_145 : decode cX12_tell 145 = .ok (.getfield 126, 3) := by decide +kernel
theorem dX12_tell_148 : decode cX12_tell 148 = .ok (.ireturn, 1) := by decide +kernel
def LX12_tell_91 (F : Nat) (u0 : Nat) (u1 : Int) (u3 : Int) (u4 : Int) (k138 : Int → HF → RO) : Nat → Int → HF → RO
  | 0, _, _ => none
  | n + 1, v5, h =>
    zrd h (u0 + 3) u1 fun x10 =>
    zbd (fX12_power F x10 u4 h) fun r11 h =>
    if v5 < r11 then (
      zrd h (u0 + 6) (wr ((wr ((wr (196 * u1)) + (wr (49 * u3)))) + v5)) fun x12 =>
      zbd (fX12_say F u0 (wr (48 + x12)) h) fun _ h =>
      zlet (wr (v5 + 1)) fun x14 =>
      LX12_tell_91 F u0 u1 u3 u4 k138 n x14 h
    ) else (
      k138 u3 h
    )
set_option maxHeartbeats 4000000 in
set_option maxRecDepth 100000 in
theorem wX12_tell_91 {p : Program} {l : Launch} {e : Env} {s : State} {m : MethodId} {args : Array Value} {below : List Frame} {meth : Method} {c : Code} {Q : State → Prop} {g : zG} {B : Nat} {o : Int × HF} (F : Nat) (cx : Cx p s m args meth c cX12_tell 6 RX12 (some .int) g B) (u0 : Nat) (ru0 : kt u0 = 15) (u1 : Int) (ru1 : rng u1) (u3 : Int) (ru3 : rng u3) (u4 : Int) (ru4 : rng u4) (k138 : Int → HF → RO) (hk138 : ∀ (x3 : Int) (h : HF) (H : Heap) (locs : List Loc) (ls : Array Slot), rng x3 → Hp g B s h H locs → lv_has ls 6 [(0, .ref (B + u0)), (1, .int (ii u1)), (3, .int (ii x3))] → k138 x3 h = some o → W p l e (rmn 2) s m args below meth c H locs 0 0 Q (F0 m 138 ls [])) : ∀ (n : Nat) (v5 : Int) (h : HF) (H : Heap) (locs : List Loc) (ls : Array Slot), rng v5 → Hp g B s h H locs → lv_has ls 6 [(0, .ref (B + u0)), (1, .int (ii u1)), (3, .int (ii u3)), (4, .int (ii u4)), (5, .int (ii v5))] → LX12_tell_91 F u0 u1 u3 u4 k138 n v5 h = some o → W p l e (rmn 2) s m args below meth c H locs 0 0 Q (F0 m 91 ls []) := by
  intro n
  induction n with
  | zero =>
    intro v5 h H locs ls rv5 hp hl hf
    cases hf
  | succ n ih =>
    intro v5 h H locs ls rv5 hp hl hf
    rw [LX12_tell_91] at hf
    refine lv_iload cx.1 cx.2.1 dX12_tell_91 (lv_at hl 4 rfl) ?_
    refine lv_aload_n cx.1 cx.2.1 dX12_tell_93 rfl (lv_at hl 0 rfl) ?_
    refine z_gets cx hp (T := TX12) 12 6 (u0 + 3) rfl zin_12 (by decide) (by decide) ru0 rfl fl_X12_16 dX12_tell_94 ?_
    refine lv_iload_n cx.1 cx.2.1 dX12_tell_97 rfl (lv_at hl 1 rfl) ?_
    refine z_iald cx hp (zs_12_6 u0 (kt_lt ru0 (by decide)) ru0) ru1 dX12_tell_98 hf (fun x10 rx10 hf => ?_)
    refine lv_iload cx.1 cx.2.1 dX12_tell_99 (lv_at hl 3 rfl) ?_
    refine z_ci cx hp (fun o' hx => zrunS (n := 2) (As := [.int (ii x10), .int (ii u4)]) (rest := [.int (ii v5)]) cx hp (mX12_power F l g B h x10 u4 rx10 ru4 o' hx) sw_X12_power ml_X12_133 (by decide) rfl hl.1 rfl (Nat.le_of_ble_eq_true rfl) dX12_tell_101) hf (fun r11 h H locs rr11 hp hf => ?_)
    refine z_icmp_ge cx rv5 rr11 (tgt := 138) dX12_tell_104 (by decide) hf (fun _ hf => ?_) (fun _ hf => ?_)
    · refine lv_aload_n cx.1 cx.2.1 dX12_tell_107 rfl (lv_at hl 0 rfl) ?_
      refine z_bipush cx (by decide) dX12_tell_108 ?_
      refine lv_aload_n cx.1 cx.2.1 dX12_tell_110 rfl (lv_at hl 0 rfl) ?_
      refine z_gets cx hp (T := TX12) 12 9 (u0 + 6) rfl zin_12 (by decide) (by decide) ru0 rfl fl_X12_25 dX12_tell_111 ?_
      refine z_sipush cx (by decide) dX12_tell_114 ?_
      refine lv_iload_n cx.1 cx.2.1 dX12_tell_117 rfl (lv_at hl 1 rfl) ?_
      refine z_imul cx dX12_tell_118 ?_
      refine z_bipush cx (by decide) dX12_tell_119 ?_
      refine lv_iload_n cx.1 cx.2.1 dX12_tell_121 rfl (lv_at hl 2 rfl) ?_
      refine z_imul cx dX12_tell_122 ?_
      refine z_iadd cx dX12_tell_123 ?_
      refine lv_iload cx.1 cx.2.1 dX12_tell_124 (lv_at hl 4 rfl) ?_
      refine z_iadd cx dX12_tell_126 ?_
      refine z_iald cx hp (zs_12_9 u0 (kt_lt ru0 (by decide)) ru0) (rng_wr _) dX12_tell_127 hf (fun x12 rx12 hf => ?_)
      refine z_iadd cx dX12_tell_128 ?_
      refine z_cv cx hp (fun o' hx => zrunV (n := 2) (As := [.int (ii (wr (48 + x12)))]) (rest := []) cx hp (mX12_say F l g B h u0 (wr (48 + x12)) ru0 (rng_wr _) o' hx) 12 ru0 (by decide) rfl vw_X12_say ml_X12_187 (by decide) rfl hl.1 rfl (Nat.le_of_ble_eq_true rfl) dX12_tell_129) hf (fun _ h H locs hp hf => ?_)
      refine z_iinc cx (fun x14 => [(5, .int (ii x14)), (0, .ref (B + u0)), (1, .int (ii u1)), (3, .int (ii u3)), (4, .int (ii u4))]) dX12_tell_132 hl (k := 4) rfl (by decide) (fun _ => rfl) hf (fun x14 rx14 hf ls hl => ?_)
      refine lv_goto (tgt := 91) cx.1 cx.2.1 dX12_tell_135 (by decide) ?_
      exact ih x14 h _ _ ls rx14 hp (lv_sub hl [1, 2, 3, 4, 0] rfl) hf
    · exact hk138 u3 h _ _ ls ru3 hp (lv_sub hl [0, 1, 2] rfl) hf
def LX12_tell_37 (F : Nat) (u0 : Nat) (u1 : Int) (k144 : HF → RO) : Nat → Int → HF → RO
  | 0, _, _ => none
  | n + 1, v3, h =>
    zrd h (u0 + 4) u1 fun x5 =>
    if v3 < x5 then (
      zbd (fX12_arity F u0 u1 v3 h) fun r6 h =>
      zbd (fX12_say F u0 59 h) fun _ h =>
      zjn (fun (x85_3 : Int) (x85_4 : Int) (y85_0 : Int) (y85_1 : Nat) (h : HF) => (
        zbd (fX12_say F y85_1 y85_0 h) fun _ h =>
        zjn (fun (x138_3 : Int) (h : HF) => (
          zlet (wr (x138_3 + 1)) fun x9 =>
          LX12_tell_37 F u0 u1 k144 n x9 h
        )) fun j138 =>
        LX12_tell_91 F u0 u1 x85_3 x85_4 j138 F 0 h
      )) fun j85 =>
      if r6 = 0 then (
        j85 v3 r6 99 u0 h
      ) else (
        if r6 = 1 then (
          j85 v3 r6 117 u0 h
        ) else (
          j85 v3 r6 98 u0 h
        )
      )
    ) else (
      k144  h
    )
set_option maxHeartbeats 4000000 in
set_option maxRecDepth 100000 in
theorem wX12_tell_37 {p : Program} {l : Launch} {e : Env} {s : State} {m : MethodId} {args : Array Value} {below : List Frame} {meth : Method} {c : Code} {Q : State → Prop} {g : zG} {B : Nat} {o : Int × HF} (F : Nat) (cx : Cx p s m args meth c cX12_tell 6 RX12 (some .int) g B) (u0 : Nat) (ru0 : kt u0 = 15) (u1 : Int) (ru1 : rng u1) (k144 : HF → RO) (hk144 : ∀  (h : HF) (H : Heap) (locs : List Loc) (ls : Array Slot), Hp g B s h H locs → lv_has ls 6 [(0, .ref (B + u0))] → k144  h = some o → W p l e (rmn 2) s m args below meth c H locs 0 0 Q (F0 m 144 ls [])) : ∀ (n : Nat) (v3 : Int) (h : HF) (H : Heap) (locs : List Loc) (ls : Array Slot), rng v3 → Hp g B s h H locs → lv_has ls 6 [(0, .ref (B + u0)), (1, .int (ii u1)), (3, .int (ii v3))] → LX12_tell_37 F u0 u1 k144 n v3 h = some o → W p l e (rmn 2) s m args below meth c H locs 0 0 Q (F0 m 37 ls []) := by
  intro n
  induction n with
  | zero =>
    intro v3 h H locs ls rv3 hp hl hf
    cases hf
  | succ n ih =>
    intro v3 h H locs ls rv3 hp hl hf
    rw [LX12_tell_37] at hf
    refine lv_iload_n cx.1 cx.2.1 dX12_tell_37 rfl (lv_at hl 2 rfl) ?_
    refine lv_aload_n cx.1 cx.2.1 dX12_tell_38 rfl (lv_at hl 0 rfl) ?_
    refine z_gets cx hp (T := TX12) 12 7 (u0 + 4) rfl zin_12 (by decide) (by decide) ru0 rfl fl_X12_19 dX12_tell_39 ?_
    refine lv_iload_n cx.1 cx.2.1 dX12_tell_42 rfl (lv_at hl 1 rfl) ?_
    refine z_iald cx hp (zs_12_7 u0 (kt_lt ru0 (by decide)) ru0) ru1 dX12_tell_43 hf (fun x5 rx5 hf => ?_)
    refine z_icmp_ge cx rv3 rx5 (tgt := 144) dX12_tell_44 (by decide) hf (fun _ hf => ?_) (fun _ hf => ?_)
    · refine lv_aload_n cx.1 cx.2.1 dX12_tell_47 rfl (lv_at hl 0 rfl) ?_
      refine lv_iload_n cx.1 cx.2.1 dX12_tell_48 rfl (lv_at hl 1 rfl) ?_
      refine lv_iload_n cx.1 cx.2.1 dX12_tell_49 rfl (lv_at hl 2 rfl) ?_
      refine z_ci cx hp (fun o' hx => zrunV (n := 2) (As := [.int (ii u1), .int (ii v3)]) (rest := []) cx hp (mX12_arity F l g B h u0 u1 v3 ru0 ru1 rv3 o' hx) 12 ru0 (by decide) rfl vw_X12_arity ml_X12_129 (by decide) rfl hl.1 rfl (Nat.le_of_ble_eq_true rfl) dX12_tell_50) hf (fun r6 h H locs rr6 hp hf => ?_)
      refine lv_istore (lv' := [(4, .int (ii r6)), (0, .ref (B + u0)), (1, .int (ii u1)), (3, .int (ii v3))]) cx.1 cx.2.1 dX12_tell_53 hl (by decide) rfl (fun ls hl => ?_)
      refine lv_aload_n cx.1 cx.2.1 dX12_tell_55 rfl (lv_at hl 1 rfl) ?_
      refine z_bipush cx (by decide) dX12_tell_56 ?_
      refine z_cv cx hp (fun o' hx => zrunV (n := 2) (As := [.int (ii 59)]) (rest := []) cx hp (mX12_say F l g B h u0 59 ru0 (by decide) o' hx) 12 ru0 (by decide) rfl vw_X12_say ml_X12_187 (by decide) rfl hl.1 rfl (Nat.le_of_ble_eq_true rfl) dX12_tell_58) hf (fun _ h H locs hp hf => ?_)
      refine lv_aload_n cx.1 cx.2.1 dX12_tell_61 rfl (lv_at hl 1 rfl) ?_
      refine lv_iload cx.1 cx.2.1 dX12_tell_62 (lv_at hl 0 rfl) ?_
      refine z_jn hf (fun j => ∀ (x85_3 : Int) (x85_4 : Int) (y85_0 : Int) (y85_1 : Nat) (h : HF) (H : Heap) (locs : List Loc) (ls : Array Slot), rng x85_3 → rng x85_4 → rng y85_0 → kt y85_1 = 15 → Hp g B s h H locs → lv_has ls 6 [(0, .ref (B + u0)), (1, .int (ii u1)), (3, .int (ii x85_3)), (4, .int (ii x85_4))] → j x85_3 x85_4 y85_0 y85_1 h = some o → W p l e (rmn 2) s m args below meth c H locs 0 0 Q (F0 m 85 ls [.int (ii y85_0), .ref (B + y85_1)])) ?_ (fun j85 hj85 hf => ?_)
      · intro x85_3 x85_4 y85_0 y85_1 h H locs ls rx85_3 rx85_4 ry85_0 ry85_1 hp hl hf
        refine z_cv cx hp (fun o' hx => zrunV (n := 2) (As := [.int (ii y85_0)]) (rest := []) cx hp (mX12_say F l g B h y85_1 y85_0 ry85_1 ry85_0 o' hx) 12 ry85_1 (by decide) rfl vw_X12_say ml_X12_187 (by decide) rfl hl.1 rfl (Nat.le_of_ble_eq_true rfl) dX12_tell_85) hf (fun _ h H locs hp hf => ?_)
        refine z_iconst cx dX12_tell_88 ?_
        refine lv_istore (lv' := [(5, .int (ii 0)), (0, .ref (B + u0)), (1, .int (ii u1)), (3, .int (ii x85_3)), (4, .int (ii x85_4))]) cx.1 cx.2.1 dX12_tell_89 hl (by decide) rfl (fun ls hl => ?_)
        refine z_jn hf (fun j => ∀ (x138_3 : Int) (h : HF) (H : Heap) (locs : List Loc) (ls : Array Slot), rng x138_3 → Hp g B s h H locs → lv_has ls 6 [(0, .ref (B + u0)), (1, .int (ii u1)), (3, .int (ii x138_3))] → j x138_3 h = some o → W p l e (rmn 2) s m args below meth c H locs 0 0 Q (F0 m 138 ls [])) ?_ (fun j138 hj138 hf => ?_)
        · intro x138_3 h H locs ls rx138_3 hp hl hf
          refine z_iinc cx (fun x9 => [(3, .int (ii x9)), (0, .ref (B + u0)), (1, .int (ii u1))]) dX12_tell_138 hl (k := 2) rfl (by decide) (fun _ => rfl) hf (fun x9 rx9 hf ls hl => ?_)
          refine lv_goto (tgt := 37) cx.1 cx.2.1 dX12_tell_141 (by decide) ?_
          exact ih x9 h _ _ ls rx9 hp (lv_sub hl [1, 2, 0] rfl) hf
        exact wX12_tell_91 F cx u0 ru0 u1 ru1 x85_3 rx85_3 x85_4 rx85_4 j138 hj138 F 0 h _ _ ls (by decide) hp (lv_sub hl [1, 2, 3, 4, 0] rfl) hf
      refine z_if_ne cx rr6 (tgt := 72) dX12_tell_64 (by decide) hf (fun _ hf => ?_) (fun _ hf => ?_)
      · refine z_bipush cx (by decide) dX12_tell_67 ?_
        refine lv_goto (tgt := 85) cx.1 cx.2.1 dX12_tell_69 (by decide) ?_
        exact hj85 v3 r6 99 u0 h _ _ ls rv3 rr6 (by decide) ru0 hp (lv_sub hl [1, 2, 3, 0] rfl) hf
      · refine lv_iload cx.1 cx.2.1 dX12_tell_72 (lv_at hl 0 rfl) ?_
        refine z_iconst cx dX12_tell_74 ?_
        refine z_icmp_ne cx rr6 (by decide) (tgt := 83) dX12_tell_75 (by decide) hf (fun _ hf => ?_) (fun _ hf => ?_)
        · refine z_bipush cx (by decide) dX12_tell_78 ?_
          refine lv_goto (tgt := 85) cx.1 cx.2.1 dX12_tell_80 (by decide) ?_
          exact hj85 v3 r6 117 u0 h _ _ ls rv3 rr6 (by decide) ru0 hp (lv_sub hl [1, 2, 3, 0] rfl) hf
        · refine z_bipush cx (by decide) dX12_tell_83 ?_
          exact hj85 v3 r6 98 u0 h _ _ ls rv3 rr6 (by decide) ru0 hp (lv_sub hl [1, 2, 3, 0] rfl) hf
    · exact hk144  h _ _ ls  hp (lv_sub hl [0] rfl) hf
def fX12_tell (F : Nat) (a0 : Nat) (a1 : Int) (h : HF) : RO :=
  zpf h a0 0 0 fun h =>
  zbd (fX12_refuse F a0 a1 h) fun r1 h =>
  if r1 = 0 then (
    zpf h a0 4 0 fun h =>
    zrd h (a0 + 3) a1 fun x2 =>
    zbd (fX12_say F a0 (wr (48 + x2)) h) fun _ h =>
    zjn (fun  (h : HF) => (
      zgf h a0 4 fun x4 =>
      some (x4, h)
    )) fun j144 =>
    LX12_tell_37 F a0 a1 j144 F 0 h
  ) else (
    some (r1, h)
  )
set_option maxHeartbeats 4000000 in
set_option maxRecDepth 100000 in
theorem mX12_tell (F : Nat) (l : Launch) (g : zG) (B : Nat) (h : HF) (a0 : Nat) (a1 : Int) (ra0 : kt a0 = 15) (ra1 : rng a1) : CTi l g B yX12_tell cX12_tell 6 (some .int) 2 [.ref (B + a0), .int (ii a1)] h (fX12_tell F a0 a1 h) := by
  refine z_enterI (by decide) rfl (Nat.le_of_ble_eq_true rfl) ?_
  intro p e s m args below meth c ls o Q cx hp hl hf hQ
  have hl : lv_has ls 6 [(0, .ref (B + a0)), (1, .int (ii a1))] := hl
  unfold fX12_tell at hf
  refine lv_aload_n cx.1 cx.2.1 dX12_tell_0 rfl (lv_at hl 0 rfl) ?_
  refine z_iconst cx dX12_tell_1 ?_
  refine z_puti cx hp (T := TX12) tyX12 tyX12_ok nmX12 12 0 (by decide) rfl zin_12 (by decide) (by decide) ra0 rfl rfl rfl fl_X12_115 dX12_tell_2 hf (fun h H locs hp hf => ?_)
  refine lv_aload_n cx.1 cx.2.1 dX12_tell_5 rfl (lv_at hl 0 rfl) ?_
  refine lv_iload_n cx.1 cx.2.1 dX12_tell_6 rfl (lv_at hl 1 rfl) ?_
  refine z_ci cx hp (fun o' hx => zrunV (n := 2) (As := [.int (ii a1)]) (rest := []) cx hp (mX12_refuse F l g B h a0 a1 ra0 ra1 o' hx) 12 ra0 (by decide) rfl vw_X12_refuse ml_X12_168 (by decide) rfl hl.1 rfl (Nat.le_of_ble_eq_true rfl) dX12_tell_7) hf (fun r1 h H locs rr1 hp hf => ?_)
  refine lv_istore_n (lv' := [(2, .int (ii r1)), (0, .ref (B + a0)), (1, .int (ii a1))]) cx.1 cx.2.1 dX12_tell_10 rfl hl (by decide) rfl (fun ls hl => ?_)
  refine lv_iload_n cx.1 cx.2.1 dX12_tell_11 rfl (lv_at hl 0 rfl) ?_
  refine z_if_eq cx rr1 (tgt := 17) dX12_tell_12 (by decide) hf (fun _ hf => ?_) (fun _ hf => ?_)
  · refine lv_aload_n cx.1 cx.2.1 dX12_tell_17 rfl (lv_at hl 1 rfl) ?_
    refine z_iconst cx dX12_tell_18 ?_
    refine z_puti cx hp (T := TX12) tyX12 tyX12_ok nmX12 12 4 (by decide) rfl zin_12 (by decide) (by decide) ra0 rfl rfl rfl fl_X12_126 dX12_tell_19 hf (fun h H locs hp hf => ?_)
    refine lv_aload_n cx.1 cx.2.1 dX12_tell_22 rfl (lv_at hl 1 rfl) ?_
    refine z_bipush cx (by decide) dX12_tell_23 ?_
    refine lv_aload_n cx.1 cx.2.1 dX12_tell_25 rfl (lv_at hl 1 rfl) ?_
    refine z_gets cx hp (T := TX12) 12 6 (a0 + 3) rfl zin_12 (by decide) (by decide) ra0 rfl fl_X12_16 dX12_tell_26 ?_
    refine lv_iload_n cx.1 cx.2.1 dX12_tell_29 rfl (lv_at hl 2 rfl) ?_
    refine z_iald cx hp (zs_12_6 a0 (kt_lt ra0 (by decide)) ra0) ra1 dX12_tell_30 hf (fun x2 rx2 hf => ?_)
    refine z_iadd cx dX12_tell_31 ?_
    refine z_cv cx hp (fun o' hx => zrunV (n := 2) (As := [.int (ii (wr (48 + x2)))]) (rest := []) cx hp (mX12_say F l g B h a0 (wr (48 + x2)) ra0 (rng_wr _) o' hx) 12 ra0 (by decide) rfl vw_X12_say ml_X12_187 (by decide) rfl hl.1 rfl (Nat.le_of_ble_eq_true rfl) dX12_tell_32) hf (fun _ h H locs hp hf => ?_)
    refine z_iconst cx dX12_tell_35 ?_
    refine lv_istore_n (lv' := [(3, .int (ii 0)), (2, .int (ii r1)), (0, .ref (B + a0)), (1, .int (ii a1))]) cx.1 cx.2.1 dX12_tell_36 rfl hl (by decide) rfl (fun ls hl => ?_)
    refine z_jn hf (fun j => ∀  (h : HF) (H : Heap) (locs : List Loc) (ls : Array Slot), Hp g B s h H locs → lv_has ls 6 [(0, .ref (B + a0))] → j  h = some o → W p l e (rmn 2) s m args below meth c H locs 0 0 Q (F0 m 144 ls [])) ?_ (fun j144 hj144 hf => ?_)
    · intro  h H locs ls  hp hl hf
      refine lv_aload_n cx.1 cx.2.1 dX12_tell_144 rfl (lv_at hl 0 rfl) ?_
      refine z_geti cx hp (T := TX12) 12 4 rfl zin_12 (by decide) (by decide) ra0 rfl fl_X12_126 dX12_tell_145 hf (fun x4 rx4 hf => ?_)
      rw [hQ]; exact z_iret cx hp rx4 dX12_tell_148 hf
    exact wX12_tell_37 F cx a0 ra0 a1 ra1 j144 hj144 F 0 h _ _ ls (by decide) hp (lv_sub hl [2, 3, 0] rfl) hf
  · refine lv_iload_n cx.1 cx.2.1 dX12_tell_15 rfl (lv_at hl 0 rfl) ?_
    rw [hQ]; exact z_iret cx hp rr1 dX12_tell_16 hf
theorem dX12_readFault_0 : decode cX12_readFault 0 = .ok (.aload_n 0, 1) := by decide +kernel
theorem dX12_readFault_1 : decode cX12_readFault 1 = .ok (.iload_n 1, 1) := by decide +kernel
theorem dX12_readFault_2 : decode cX12_readFault 2 = .ok (.putfield 190, 3) := by decide +kernel
theorem dX12_readFault_5 : decode cX12_readFault 5 = .ok (.bipush (-100), 2) := by decide +kernel
theorem dX12_readFault_7 : decode cX12_readFault 7 = .ok (.aload_n 0, 1) := by decide +kernel
theorem dX12_readFault_8 : decode cX12_readFault 8 = .ok (.getfield 193, 3) := by decide +kernel
theorem dX12_readFault_11 : decode cX12_readFault 11 = .ok (.isub, 1) := by decide +kernel
theorem dX12_readFault_12 : decode cX12_readFault 12 = .ok (.ireturn, 1) := by decide +kernel
def fX12_readFault (F : Nat) (a0 : Nat) (a1 : Int) (h : HF) : RO :=
  zpf h a0 5 a1 fun h =>
  zgf h a0 17 fun x1 =>
  some (wr ((-100) - x1), h)
set_option maxHeartbeats 4000000 in
set_option maxRecDepth 100000 in
theorem mX12_readFault (F : Nat) (l : Launch) (g : zG) (B : Nat) (h : HF) (a0 : Nat) (a1 : Int) (ra0 : kt a0 = 15) (ra1 : rng a1) : CTi l g B yX12_readFault cX12_readFault 2 (some .int) 0 [.ref (B + a0), .int (ii a1)] h (fX12_readFault F a0 a1 h) := by
  refine z_enterI (by decide) rfl (Nat.le_of_ble_eq_true rfl) ?_
  intro p e s m args below meth c ls o Q cx hp hl hf hQ
  have hl : lv_has ls 2 [(0, .ref (B + a0)), (1, .int (ii a1))] := hl
  unfold fX12_readFault at hf
  refine lv_aload_n cx.1 cx.2.1 dX12_readFault_0 rfl (lv_at hl 0 rfl) ?_
  refine lv_iload_n cx.1 cx.2.1 dX12_readFault_1 rfl (lv_at hl 1 rfl) ?_
  refine z_puti cx hp (T := TX12) tyX12 tyX12_ok nmX12 12 5 ra1 rfl zin_12 (by decide) (by decide) ra0 rfl rfl rfl fl_X12_190 dX12_readFault_2 hf (fun h H locs hp hf => ?_)
  refine z_bipush cx (by decide) dX12_readFault_5 ?_
  refine lv_aload_n cx.1 cx.2.1 dX12_readFault_7 rfl (lv_at hl 0 rfl) ?_
  refine z_geti cx hp (T := TX12) 12 17 rfl zin_12 (by decide) (by decide) ra0 rfl fl_X12_193 dX12_readFault_8 hf (fun x1 rx1 hf => ?_)
  refine z_isub cx dX12_readFault_11 ?_
  rw [hQ]; exact z_iret cx hp (rng_wr _) dX12_readFault_12 hf
theorem dX12_byteAt_0 : decode cX12_byteAt 0 = .ok (.aload_n 0, 1) := by decide +kernel
theorem dX12_byteAt_1 : decode cX12_byteAt 1 = .ok (.getfield 193, 3) := by decide +kernel
theorem dX12_byteAt_4 : decode cX12_byteAt 4 = .ok (.iload_n 1, 1) := by decide +kernel
theorem dX12_byteAt_5 : decode cX12_byteAt 5 = .ok (.if_icmp .ge 15, 3) := by decide +kernel
theorem dX12_byteAt_8 : decode cX12_byteAt 8 = .ok (.aload_n 0, 1) := by decide +kernel
theorem dX12_byteAt_9 : decode cX12_byteAt 9 = .ok (.getfield 7, 3) := by decide +kernel
theorem dX12_byteAt_12 : decode cX12_byteAt 12 = .ok (.aload_n 0, 1) := by decide +kernel
theorem dX12_byteAt_13 : decode cX12_byteAt 13 = .ok (.getfield 193, 3) := by decide +kernel
theorem dX12_byteAt_16 : decode cX12_byteAt 16 = .ok (.iaload, 1) := by decide +kernel
theorem dX12_byteAt_17 : decode cX12_byteAt 17 = .ok (.goto 4, 3) := by decide +kernel
theorem dX12_byteAt_20 : decode cX12_byteAt 20 = .ok (.iconst (-1), 1) := by decide +kernel
theorem dX12_byteAt_21 : decode cX12_byteAt 21 = .ok (.ireturn, 1) := by decide +kernel
def fX12_byteAt (F : Nat) (a0 : Nat) (a1 : Int) (h : HF) : RO :=
  zgf h a0 17 fun x1 =>
  zjn (fun (y21_0 : Int) (h : HF) => (
    some (y21_0, h)
  )) fun j21 =>
  if x1 < a1 then (
    zgf h a0 17 fun x2 =>
    zrd h (a0 + 1) x2 fun x3 =>
    j21 x3 h
  ) else (
    j21 (-1) h
  )
set_option maxHeartbeats 4000000 in
set_option maxRecDepth 100000 in
theorem mX12_byteAt (F : Nat) (l : Launch) (g : zG) (B : Nat) (h : HF) (a0 : Nat) (a1 : Int) (ra0 : kt a0 = 15) (ra1 : rng a1) : CTi l g B yX12_byteAt cX12_byteAt 2 (some .int) 0 [.ref (B + a0), .int (ii a1)] h (fX12_byteAt F a0 a1 h) := by
  refine z_enterI (by decide) rfl (Nat.le_of_ble_eq_true rfl) ?_
  intro p e s m args below meth c ls o Q cx hp hl hf hQ
  have hl : lv_has ls 2 [(0, .ref (B + a0)), (1, .int (ii a1))] := hl
  unfold fX12_byteAt at hf
  refine lv_aload_n cx.1 cx.2.1 dX12_byteAt_0 rfl (lv_at hl 0 rfl) ?_
  refine z_geti cx hp (T := TX12) 12 17 rfl zin_12 (by decide) (by decide) ra0 rfl fl_X12_193 dX12_byteAt_1 hf (fun x1 rx1 hf => ?_)
  refine lv_iload_n cx.1 cx.2.1 dX12_byteAt_4 rfl (lv_at hl 1 rfl) ?_
  refine z_jn hf (fun j => ∀ (y21_0 : Int) (h : HF) (H : Heap) (locs : List Loc) (ls : Array Slot), rng y21_0 → Hp g B s h H locs → lv_has ls 2 [] → j y21_0 h = some o → W p l e (rmn 0) s m args below meth c H locs 0 0 Q (F0 m 21 ls [.int (ii y21_0)])) ?_ (fun j21 hj21 hf => ?_)
  · intro y21_0 h H locs ls ry21_0 hp hl hf
    rw [hQ]; exact z_iret cx hp ry21_0 dX12_byteAt_21 hf
  refine z_icmp_ge cx rx1 ra1 (tgt := 20) dX12_byteAt_5 (by decide) hf (fun _ hf => ?_) (fun _ hf => ?_)
  · refine lv_aload_n cx.1 cx.2.1 dX12_byteAt_8 rfl (lv_at hl 0 rfl) ?_
    refine z_gets cx hp (T := TX12) 12 1 (a0 + 1) rfl zin_12 (by decide) (by decide) ra0 rfl fl_X12_7 dX12_byteAt_9 ?_
    refine lv_aload_n cx.1 cx.2.1 dX12_byteAt_12 rfl (lv_at hl 0 rfl) ?_
    refine z_geti cx hp (T := TX12) 12 17 rfl zin_12 (by decide) (by decide) ra0 rfl fl_X12_193 dX12_byteAt_13 hf (fun x2 rx2 hf => ?_)
    refine z_iald cx hp (zs_12_1 a0 (kt_lt ra0 (by decide)) ra0) rx2 dX12_byteAt_16 hf (fun x3 rx3 hf => ?_)
    refine lv_goto (tgt := 21) cx.1 cx.2.1 dX12_byteAt_17 (by decide) ?_
    exact hj21 x3 h _ _ ls rx3 hp (lv_sub hl [] rfl) hf
  · refine z_iconst cx dX12_byteAt_20 ?_
    exact hj21 (-1) h _ _ ls (by decide) hp (lv_sub hl [] rfl) hf
theorem dX12_read_0 : decode cX12_read 0 = .ok (.aload_n 0, 1) := by decide +kernel
theorem dX12_read_1 : decode cX12_read 1 = .ok (.iconst 0, 1) := by decide +kernel
theorem dX12_read_2 : decode cX12_read 2 = .ok (.putfield 115, 3) := by decide +kernel
theorem dX12_read_5 : decode cX12_read 5 = .ok (.aload_n 0, 1) := by decide +kernel
theorem dX12_read_6 : decode cX12_read 6 = .ok (.getfield 119, 3) := by decide +kernel
theorem dX12_read_9 : decode cX12_read 9 = .ok (.istore_n 2, 1) := by decide +kernel
theorem dX12_read_10 : decode cX12_read 10 = .ok (.aload_n 0, 1) := by decide +kernel
theorem dX12_read_11 : decode cX12_read 11 = .ok (.iconst 0, 1) := by decide +kernel
theorem dX12_read_12 : decode cX12_read 12 = .ok (.putfield 119, 3) := by decide +kernel
theorem dX12_read_15 : decode cX12_read 15 = .ok (.aload_n 0, 1) := by decide +kernel
theorem dX12_read_16 : decode cX12_read 16 = .ok (.iload_n 1, 1) := by decide +kernel
theorem dX12_read_17 : decode cX12_read 17 = .ok (.invokevirtual 146, 3) := by decide +kernel
theorem dX12_read_20 : decode cX12_read 20 = .ok (.ifCond .ne 6, 3) := by decide +kernel
theorem dX12_read_23 : decode cX12_read 23 = .ok (.bipush (-3), 2) := by decide +kernel
theorem dX12_read_25 : decode cX12_read 25 = .ok (.ireturn, 1) := by decide +kernel
theorem dX12_read_26 : decode cX12_read 26 = .ok (.aload_n 0, 1) := by decide +kernel
theorem dX12_read_27 : decode cX12_read 27 = .ok (.iconst 0, 1) := by decide +kernel
theorem dX12_read_28 : decode cX12_read 28 = .ok (.putfield 190, 3) := by decide +kernel
theorem dX12_read_31 : decode cX12_read 31 = .ok (.aload_n 0, 1) := by decide +kernel
theorem dX12_read_32 : decode cX12_read 32 = .ok (.iconst 0, 1) := by decide +kernel
theorem dX12_read_33 : decode cX12_read 33 = .ok (.putfield 193, 3) := by decide +kernel
theorem dX12_read_36 : decode cX12_read 36 = .ok (.aload_n 0, 1) := by decide +kernel
theorem dX12_read_37 : decode cX12_read 37 = .ok (.iload_n 2, 1) := by decide +kernel
theorem dX12_read_38 : decode cX12_read 38 = .ok (.invokevirtual 196, 3) := by decide +kernel
theorem dX12_read_41 : decode cX12_read 41 = .ok (.bipush 48, 2) := by decide +kernel
theorem dX12_read_43 : decode cX12_read 43 = .ok (.isub, 1) := by decide +kernel
theorem dX12_read_44 : decode cX12_read 44 = .ok (.istore_n 3, 1) := by decide +kernel
theorem dX12_read_45 : decode cX12_read 45 = .ok (.iload_n 3, 1) := by decide +kernel
theorem dX12_read_46 : decode cX12_read 46 = .ok (.iconst 1, 1) := by decide +kernel
theorem dX12_read_47 : decode cX12_read 47 = .ok (.if_icmp .lt 9, 3) := by decide +kernel
theorem dX12_read_50 : decode cX12_read 50 = .ok (.iload_n 3, 1) := by decide +kernel
theorem dX12_read_51 : decode cX12_read 51 = .ok (.bipush 7, 2) := by decide +kernel
theorem dX12_read_53 : decode cX12_read 53 = .ok (.if_icmp .le 9, 3) := by decide +kernel
theorem dX12_read_62 : decode cX12_read 62 = .ok (.aload_n 0, 1) := by decide +kernel
theorem dX12_read_63 : decode cX12_read 63 = .ok (.bipush 8, 2) := by decide +kernel
theorem dX12_read_65 : decode cX12_read 65 = .ok (.iload_n 3, 1) := by decide +kernel
theorem dX12_read_66 : decode cX12_read 66 = .ok (.iconst 0, 1) := by decide +kernel
theorem dX12_read_67 : decode cX12_read 67 = .ok (.invokevirtual 156, 3) := by decide +kernel
theorem dX12_read_70 : decode cX12_read 70 = .ok (.aload_n 0, 1) := by decide +kernel
theorem dX12_read_71 : decode cX12_read 71 = .ok (.iconst 1, 1) := by decide +kernel
theorem dX12_read_72 : decode cX12_read 72 = .ok (.putfield 193, 3) := by decide +kernel
theorem dX12_read_75 : decode cX12_read 75 = .ok (.aload_n 0, 1) := by decide +kernel
theorem dX12_read_76 : decode cX12_read 76 = .ok (.getfield 193, 3) := by decide +kernel
theorem dX12_read_79 : decode cX12_read 79 = .ok (.iload_n 2, 1) := by decide +kernel
theorem dX12_read_80 : decode cX12_read 80 = .ok (.if_icmp .ge 240, 3) := by decide +kernel
theorem dX12_read_83 : decode cX12_read 83 = .ok (.aload_n 0, 1) := by decide +kernel
theorem dX12_read_84 : decode cX12_read 84 = .ok (.iload_n 2, 1) := by decide +kernel
theorem dX12_read_85 : decode cX12_read 85 = .ok (.invokevirtual 196, 3) := by decide +kernel
theorem dX12_read_88 : decode cX12_read 88 = .ok (.bipush 59, 2) := by decide +kernel
theorem dX12_read_90 : decode cX12_read 90 = .ok (.if_icmp .eq 9, 3) := by decide +kernel
theorem dX12_read_93 : decode cX12_read 93 = .ok (.aload_n 0, 1) := by decide +kernel
theorem dX12_read_94 : decode cX12_read 94 = .ok (.iconst 1, 1) := by decide +kernel
theorem dX12_read_95 : decode cX12_read 95 = .ok (.invokevirtual 199, 3) := by decide +kernel
theorem dX12_read_98 : decode cX12_read 98 = .ok (.ireturn, 1) := by decide +kernel
theorem dX12_read_99 : decode cX12_read 99 = .ok (.aload_n 0, 1) := by decide +kernel
theorem dX12_read_100 : decode cX12_read 100 = .ok (.getfield 19, 3) := by decide +kernel
theorem dX12_read_103 : decode cX12_read 103 = .ok (.bipush 8, 2) := by decide +kernel
theorem dX12_read_105 : decode cX12_read 105 = .ok (.iaload, 1) := by decide +kernel
theorem dX12_read_106 : decode cX12_read 106 = .ok (.iconst 4, 1) := by decide +kernel
theorem dX12_read_107 : decode cX12_read 107 = .ok (.if_icmp .ne 9, 3) := by decide +kernel
theorem dX12_read_110 : decode cX12_read 110 = .ok (.aload_n 0, 1) := by decide +kernel
theorem dX12_read_111 : decode cX12_read 111 = .ok (.iconst 3, 1) := by decide +kernel
theorem dX12_read_112 : decode cX12_read 112 = .ok (.invokevirtual 199, 3) := by decide +kernel
theorem dX12_read_115 : decode cX12_read 115 = .ok (.ireturn, 1) := by decide +kernel
theorem dX12_read_116 : decode cX12_read 116 = .ok (.aload_n 0, 1) := by decide +kernel
theorem dX12_read_117 : decode cX12_read 117 = .ok (.dup, 1) := by decide +kernel
theorem dX12_read_118 : decode cX12_read 118 = .ok (.getfield 193, 3) := by decide +kernel
theorem dX12_read_121 : decode cX12_read 121 = .ok (.iconst 1, 1) := by decide +kernel
theorem dX12_read_122 : decode cX12_read 122 = .ok (.iadd, 1) := by decide +kernel
theorem dX12_read_123 : decode cX12_read 123 = .ok (.putfield 193, 3) := by decide +kernel
theorem dX12_read_126 : decode cX12_read 126 = .ok (.aload_n 0, 1) := by decide +kernel
theorem dX12_read_127 : decode cX12_read 127 = .ok (.iload_n 2, 1) := by decide +kernel
theorem dX12_read_128 : decode cX12_read 128 = .ok (.invokevirtual 196, 3) := by decide +kernel
theorem dX12_read_131 : decode cX12_read 131 = .ok (.istore 4, 2) := by decide +kernel
theorem dX12_read_133 : decode cX12_read 133 = .ok (.iload 4, 2) := by decide +kernel
theorem dX12_read_135 : decode cX12_read 135 = .ok (.bipush 99, 2) := by decide +kernel
theorem dX12_read_137 : decode cX12_read 137 = .ok (.if_icmp .eq 23, 3) := by decide +kernel
theorem dX12_read_140 : decode cX12_read 140 = .ok (.iload 4, 2) := by decide +kernel
theorem dX12_read_142 : decode cX12_read 142 = .ok (.bipush 117, 2) := by decide +kernel
theorem dX12_read_144 : decode cX12_read 144 = .ok (.if_icmp .eq 16, 3) := by decide +kernel
theorem dX12_read_147 : decode cX12_read 147 = .ok (.iload 4, 2) := by decide +kernel
theorem dX12_read_149 : decode cX12_read 149 = .ok (.bipush 98, 2) := by decide +kernel
theorem dX12_read_151 : decode cX12_read 151 = .ok (.if_icmp .eq 9, 3) := by decide +kernel
theorem dX12_read_154 : decode cX12_read 154 = .ok (.aload_n 0, 1) := by decide +kernel
theorem dX12_read_155 : decode cX12_read 155 = .ok (.iconst 1, 1) := by decide +kernel
theorem dX12_read_156 : decode cX12_read 156 = .ok (.invokevirtual 199, 3) := by decide +kernel
theorem dX12_read_159 : decode cX12_read 159 = .ok (.ireturn, 1) := by decide +kernel
theorem dX12_read_160 : decode cX12_read 160 = .ok (.iload 4, 2) := by decide +kernel
theorem dX12_read_162 : decode cX12_read 162 = .ok (.bipush 99, 2) := by decide +kernel
theorem dX12_read_164 : decode cX12_read 164 = .ok (.if_icmp .ne 7, 3) := by decide +kernel
theorem dX12_read_167 : decode cX12_read 167 = .ok (.iconst 0, 1) := by decide +kernel
theorem dX12_read_168 : decode cX12_read 168 = .ok (.goto 15, 3) := by decide +kernel
theorem dX12_read_171 : decode cX12_read 171 = .ok (.iload 4, 2) := by decide +kernel
theorem dX12_read_173 : decode cX12_read 173 = .ok (.bipush 117, 2) := by decide +kernel
theorem dX12_read_175 : decode cX12_read 175 = .ok (.if_icmp .ne 7, 3) := by decide +kernel
theorem dX12_read_178 : decode cX12_read 178 = .ok (.iconst 1, 1) := by decide +kernel
theorem dX12_read_179 : decode cX12_read 179 = .ok (.goto 4, 3) := by decide +kernel
theorem dX12_read_182 : decode cX12_read 182 = .ok (.iconst 2, 1) := by decide +kernel
theorem dX12_read_183 : decode cX12_read 183 = .ok (.istore 5, 2) := by decide +kernel
theorem dX12_read_185 : decode cX12_read 185 = .ok (.aload_n 0, 1) := by decide +kernel
theorem dX12_read_186 : decode cX12_read 186 = .ok (.getfield 22, 3) := by decide +kernel
theorem dX12_read_189 : decode cX12_read 189 = .ok (.bipush 32, 2) := by decide +kernel
theorem dX12_read_191 : decode cX12_read 191 = .ok (.aload_n 0, 1) := by decide +kernel
theorem dX12_read_192 : decode cX12_read 192 = .ok (.getfield 19, 3) := by decide +kernel
theorem dX12_read_195 : decode cX12_read 195 = .ok (.bipush 8, 2) := by decide +kernel
theorem dX12_read_197 : decode cX12_read 197 = .ok (.iaload, 1) := by decide +kernel
theorem dX12_read_198 : decode cX12_read 198 = .ok (.iadd, 1) := by decide +kernel
theorem dX12_read_199 : decode cX12_read 199 = .ok (.iload 5, 2) := by decide +kernel
theorem dX12_read_201 : decode cX12_read 201 = .ok (.iastore, 1) := by decide +kernel
theorem dX12_read_202 : decode cX12_read 202 = .ok (.aload_n 0, 1) := by decide +kernel
theorem dX12_read_203 : decode cX12_read 203 = .ok (.dup, 1) := by decide +kernel
theorem dX12_read_204 : decode cX12_read 204 = .ok (.getfield 193, 3) := by decide +kernel
theorem dX12_read_207 : decode cX12_read 207 = .ok (.iconst 1, 1) := by decide +kernel
theorem dX12_read_208 : decode cX12_read 208 = .ok (.iadd, 1) := by decide +kernel
theorem dX12_read_209 : decode cX12_read 209 = .ok (.putfield 193, 3) := by decide +kernel
theorem dX12_read_212 : decode cX12_read 212 = .ok (.iconst 0, 1) := by decide +kernel
theorem dX12_read_213 : decode cX12_read 213 = .ok (.istore 6, 2) := by decide +kernel
theorem dX12_read_215 : decode cX12_read 215 = .ok (.iload 6, 2) := by decide +kernel
theorem dX12_read_217 : decode cX12_read 217 = .ok (.iload_n 3, 1) := by decide +kernel
theorem dX12_read_218 : decode cX12_read 218 = .ok (.iload 5, 2) := by decide +kernel
theorem dX12_read_220 : decode cX12_read 220 = .ok (.invokestatic 133, 3) := by decide +kernel
theorem dX12_read_223 : decode cX12_read 223 = .ok (.if_icmp .ge 83, 3) := by decide +kernel
theorem dX12_read_226 : decode cX12_read 226 = .ok (.aload_n 0, 1) := by decide +kernel
theorem dX12_read_227 : decode cX12_read 227 = .ok (.iload_n 2, 1) := by decide +kernel
theorem dX12_read_228 : decode cX12_read 228 = .ok (.invokevirtual 196, 3) := by decide +kernel
theorem dX12_read_231 : decode cX12_read 231 = .ok (.bipush 48, 2) := by decide +kernel
theorem dX12_read_233 : decode cX12_read 233 = .ok (.isub, 1) := by decide +kernel
theorem dX12_read_234 : decode cX12_read 234 = .ok (.istore 7, 2) := by decide +kernel
theorem dX12_read_236 : decode cX12_read 236 = .ok (.iload 7, 2) := by decide +kernel
theorem dX12_read_238 : decode cX12_read 238 = .ok (.ifCond .lt 10, 3) := by decide +kernel
theorem dX12_read_241 : decode cX12_read 241 = .ok (.iload 7, 2) := by decide +kernel
theorem dX12_read_243 : decode cX12_read 243 = .ok (.bipush 9, 2) := by decide +kernel
theorem dX12_read_245 : decode cX12_read 245 = .ok (.if_icmp .le 9, 3) := by decide +kernel
theorem dX12_read_254 : decode cX12_read 254 = .ok (.iload 7, 2) := by decide +kernel
theorem dX12_read_256 : decode cX12_read 256 = .ok (.iload_n 3, 1) := by decide +kernel
theorem dX12_read_257 : decode cX12_read 257 = .ok (.if_icmp .lt 9, 3) := by decide +kernel
theorem dX12_read_260 : decode cX12_read 260 = .ok (.aload_n 0, 1) := by decide +kernel
theorem dX12_read_261 : decode cX12_read 261 = .ok (.iconst 2, 1) := by decide +kernel
theorem dX12_read_262 : decode cX12_read 262 = .ok (.invokevirtual 199, 3) := by decide +kernel
theorem dX12_read_265 : decode cX12_read 265 = .ok (.ireturn, 1) := by decide +kernel
theorem dX12_read_266 : decode cX12_read 266 = .ok (.aload_n 0, 1) := by decide +kernel
theorem dX12_read_267 : decode cX12_read 267 = .ok (.getfield 25, 3) := by decide +kernel
theorem dX12_read_270 : decode cX12_read 270 = .ok (.sipush 1568, 3) := by decide +kernel
theorem dX12_read_273 : decode cX12_read 273 = .ok (.bipush 49, 2) := by decide +kernel
theorem dX12_read_275 : decode cX12_read 275 = .ok (.aload_n 0, 1) := by decide +kernel
theorem dX12_read_276 : decode cX12_read 276 = .ok (.getfield 19, 3) := by decide +kernel
theorem dX12_read_279 : decode cX12_read 279 = .ok (.bipush 8, 2) := by decide +kernel
theorem dX12_read_281 : decode cX12_read 281 = .ok (.iaload, 1) := by decide +kernel
theorem dX12_read_282 : decode cX12_read 282 = .ok (.imul, 1) := by decide +kernel
theorem dX12_read_283 : decode cX12_read 283 = .ok (.iadd, 1) := by decide +kernel
theorem dX12_read_284 : decode cX12_read 284 = .ok (.iload 6, 2) := by decide +kernel
theorem dX12_read_286 : decode cX12_read 286 = .ok (.iadd, 1) := by decide +kernel
theorem dX12_read_287 : decode cX12_read 287 = .ok (.iload 7, 2) := by decide +kernel
theorem dX12_read_289 : decode cX12_read 289 = .ok (.iastore, 1) := by decide +kernel
theorem dX12_read_290 : decode cX12_read 290 = .ok (.aload_n 0, 1) := by decide +kernel
theorem dX12_read_291 : decode cX12_read 291 = .ok (.dup, 1) := by decide +kernel
theorem dX12_read_292 : decode cX12_read 292 = .ok (.getfield 193, 3) := by decide +kernel
theorem dX12_read_295 : decode cX12_read 295 = .ok (.iconst 1, 1) := by decide +kernel
theorem dX12_read_296 : decode cX12_read 296 = .ok (.iadd, 1) := by decide +kernel
theorem dX12_read_297 : decode cX12_read 297 = .ok (.putfield 193, 3) := by decide +kernel
theorem dX12_read_300 : decode cX12_read 300 = .ok (.iinc 6 1, 3) := by decide +kernel
theorem dX12_read_303 : decode cX12_read 303 = .ok (.goto (-88), 3) := by decide +kernel
theorem dX12_read_248 : decode cX12_read 248 = .ok (.aload_n 0, 1) := by decide +kernel
theorem dX12_read_249 : decode cX12_read 249 = .ok (.iconst 1, 1) := by decide +kernel
theorem dX12_read_250 : decode cX12_read 250 = .ok (.invokevirtual 199, 3) := by decide +kernel
theorem dX12_read_253 : decode cX12_read 253 = .ok (.ireturn, 1) := by decide +kernel
theorem dX12_read_306 : decode cX12_read 306 = .ok (.aload_n 0, 1) := by decide +kernel
theorem dX12_read_307 : decode cX12_read 307 = .ok (.getfield 19, 3) := by decide +kernel
theorem dX12_read_310 : decode cX12_read 310 = .ok (.bipush 8, 2) := by decide +kernel
theorem dX12_read_312 : decode cX12_read 312 = .ok (.dup2, 1) := by decide +kernel
theorem dX12_read_313 : decode cX12_read 313 = .ok (.iaload, 1) := by decide +kernel
theorem dX12_read_314 : decode cX12_read 314 = .ok (.iconst 1, 1) := by decide +kernel
theorem dX12_read_315 : decode cX12_read 315 = .ok (.iadd, 1) := by decide +kernel
theorem dX12_read_316 : decode cX12_read 316 = .ok (.iastore, 1) := by decide +kernel
theorem dX12_read_317 : decode cX12_read 317 = .ok (.goto (-242), 3) := by decide +kernel
theorem dX12_read_320 : decode cX12_read 320 = .ok (.aload_n 0, 1) := by decide +kernel
theorem dX12_read_321 : decode cX12_read 321 = .ok (.iload_n 1, 1) := by decide +kernel
theorem dX12_read_322 : decode cX12_read 322 = .ok (.invokevirtual 153, 3) := by decide +kernel
theorem dX12_read_325 : decode cX12_read 325 = .ok (.aload_n 0, 1) := by decide +kernel
theorem dX12_read_326 : decode cX12_read 326 = .ok (.bipush 8, 2) := by decide +kernel
theorem dX12_read_328 : decode cX12_read 328 = .ok (.iload_n 1, 1) := by decide +kernel
theorem dX12_read_329 : decode cX12_read 329 = .ok (.invokevirtual 202, 3) := by decide +kernel
theorem dX12_read_332 : decode cX12_read 332 = .ok (.iload_n 3, 1) := by decide +kernel
theorem dX12_read_333 : decode cX12_read 333 = .ok (.ireturn, 1) := by decide +kernel
theorem dX12_read_56 : decode cX12_read 56 = .ok (.aload_n 0, 1) := by decide +kernel
theorem dX12_read_57 : decode cX12_read 57 = .ok (.iconst 1, 1) := by decide +kernel
theorem dX12_read_58 : decode cX12_read 58 = .ok (.invokevirtual 199, 3) := by decide +kernel
theorem dX12_read_61 : decode cX12_read 61 = .ok (.ireturn, 1) := by decide +kernel
def LX12_read_215 (F : Nat) (u0 : Nat) (u1 : Int) (u2 : Int) (u3 : Int) (u5 : Int) (k306 : HF → RO) (k248 : HF → RO) (k260 : HF → RO) : Nat → Int → HF → RO
  | 0, _, _ => none
  | n + 1, v6, h =>
    zbd (fX12_power F u3 u5 h) fun r22 h =>
    if v6 < r22 then (
      zbd (fX12_byteAt F u0 u2 h) fun r23 h =>
      zlet (wr (r23 - 48)) fun x24 =>
      if x24 < 0 then (
        k248  h
      ) else (
        if 9 < x24 then (
          k248  h
        ) else (
          if x24 < u3 then (
            zrd h (u0 + 4) 8 fun x25 =>
            zwr h (u0 + 6) (wr ((wr (1568 + (wr (49 * x25)))) + v6)) x24 fun h =>
            zgf h u0 17 fun x26 =>
            zpf h u0 17 (wr (x26 + 1)) fun h =>
            zlet (wr (v6 + 1)) fun x27 =>
            LX12_read_215 F u0 u1 u2 u3 u5 k306 k248 k260 n x27 h
          ) else (
            k260  h
          )
        )
      )
    ) else (
      k306  h
    )
set_option maxHeartbeats 4000000 in
set_option maxRecDepth 100000 in
theorem wX12_read_215 {p : Program} {l : Launch} {e : Env} {s : State} {m : MethodId} {args : Array Value} {below : List Frame} {meth : Method} {c : Code} {Q : State → Prop} {g : zG} {B : Nat} {o : Int × HF} (F : Nat) (cx : Cx p s m args meth c cX12_read 8 RX12 (some .int) g B) (u0 : Nat) (ru0 : kt u0 = 15) (u1 : Int) (ru1 : rng u1) (u2 : Int) (ru2 : rng u2) (u3 : Int) (ru3 : rng u3) (u5 : Int) (ru5 : rng u5) (k306 : HF → RO) (hk306 : ∀  (h : HF) (H : Heap) (locs : List Loc) (ls : Array Slot), Hp g B s h H locs → lv_has ls 8 [(0, .ref (B + u0)), (1, .int (ii u1)), (2, .int (ii u2)), (3, .int (ii u3))] → k306  h = some o → W p l e (rmn 1) s m args below meth c H locs 0 0 Q (F0 m 306 ls [])) (k248 : HF → RO) (hk248 : ∀  (h : HF) (H : Heap) (locs : List Loc) (ls : Array Slot), Hp g B s h H locs → lv_has ls 8 [(0, .ref (B + u0))] → k248  h = some o → W p l e (rmn 1) s m args below meth c H locs 0 0 Q (F0 m 248 ls [])) (k260 : HF → RO) (hk260 : ∀  (h : HF) (H : Heap) (locs : List Loc) (ls : Array Slot), Hp g B s h H locs → lv_has ls 8 [(0, .ref (B + u0))] → k260  h = some o → W p l e (rmn 1) s m args below meth c H locs 0 0 Q (F0 m 260 ls [])) : ∀ (n : Nat) (v6 : Int) (h : HF) (H : Heap) (locs : List Loc) (ls : Array Slot), rng v6 → Hp g B s h H locs → lv_has ls 8 [(0, .ref (B + u0)), (1, .int (ii u1)), (2, .int (ii u2)), (3, .int (ii u3)), (5, .int (ii u5)), (6, .int (ii v6))] → LX12_read_215 F u0 u1 u2 u3 u5 k306 k248 k260 n v6 h = some o → W p l e (rmn 1) s m args below meth c H locs 0 0 Q (F0 m 215 ls []) := by
  intro n
  induction n with
  | zero =>
    intro v6 h H locs ls rv6 hp hl hf
    cases hf
  | succ n ih =>
    intro v6 h H locs ls rv6 hp hl hf
    rw [LX12_read_215] at hf
    refine lv_iload cx.1 cx.2.1 dX12_read_215 (lv_at hl 5 rfl) ?_
    refine lv_iload_n cx.1 cx.2.1 dX12_read_217 rfl (lv_at hl 3 rfl) ?_
    refine lv_iload cx.1 cx.2.1 dX12_read_218 (lv_at hl 4 rfl) ?_
    refine z_ci cx hp (fun o' hx => zrunS (n := 1) (As := [.int (ii u3), .int (ii u5)]) (rest := [.int (ii v6)]) cx hp (mX12_power F l g B h u3 u5 ru3 ru5 o' hx) sw_X12_power ml_X12_133 (by decide) rfl hl.1 rfl (Nat.le_of_ble_eq_true rfl) dX12_read_220) hf (fun r22 h H locs rr22 hp hf => ?_)
    refine z_icmp_ge cx rv6 rr22 (tgt := 306) dX12_read_223 (by decide) hf (fun _ hf => ?_) (fun _ hf => ?_)
    · refine lv_aload_n cx.1 cx.2.1 dX12_read_226 rfl (lv_at hl 0 rfl) ?_
      refine lv_iload_n cx.1 cx.2.1 dX12_read_227 rfl (lv_at hl 2 rfl) ?_
      refine z_ci cx hp (fun o' hx => zrunV (n := 1) (As := [.int (ii u2)]) (rest := []) cx hp (mX12_byteAt F l g B h u0 u2 ru0 ru2 o' hx) 12 ru0 (by decide) rfl vw_X12_byteAt ml_X12_196 (by decide) rfl hl.1 rfl (Nat.le_of_ble_eq_true rfl) dX12_read_228) hf (fun r23 h H locs rr23 hp hf => ?_)
      refine z_bipush cx (by decide) dX12_read_231 ?_
      refine z_isub cx dX12_read_233 ?_
      refine z_let (rng_wr _) hf (fun x24 rx24 hf => ?_)
      refine lv_istore (lv' := [(7, .int (ii x24)), (0, .ref (B + u0)), (1, .int (ii u1)), (2, .int (ii u2)), (3, .int (ii u3)), (5, .int (ii u5)), (6, .int (ii v6))]) cx.1 cx.2.1 dX12_read_234 hl (by decide) rfl (fun ls hl => ?_)
      refine lv_iload cx.1 cx.2.1 dX12_read_236 (lv_at hl 0 rfl) ?_
      refine z_if_lt cx rx24 (tgt := 248) dX12_read_238 (by decide) hf (fun _ hf => ?_) (fun _ hf => ?_)
      · exact hk248  h _ _ ls  hp (lv_sub hl [1] rfl) hf
      · refine lv_iload cx.1 cx.2.1 dX12_read_241 (lv_at hl 0 rfl) ?_
        refine z_bipush cx (by decide) dX12_read_243 ?_
        refine z_icmp_le cx rx24 (by decide) (tgt := 254) dX12_read_245 (by decide) hf (fun _ hf => ?_) (fun _ hf => ?_)
        · exact hk248  h _ _ ls  hp (lv_sub hl [1] rfl) hf
        · refine lv_iload cx.1 cx.2.1 dX12_read_254 (lv_at hl 0 rfl) ?_
          refine lv_iload_n cx.1 cx.2.1 dX12_read_256 rfl (lv_at hl 4 rfl) ?_
          refine z_icmp_lt cx rx24 ru3 (tgt := 266) dX12_read_257 (by decide) hf (fun _ hf => ?_) (fun _ hf => ?_)
          · refine lv_aload_n cx.1 cx.2.1 dX12_read_266 rfl (lv_at hl 1 rfl) ?_
            refine z_gets cx hp (T := TX12) 12 9 (u0 + 6) rfl zin_12 (by decide) (by decide) ru0 rfl fl_X12_25 dX12_read_267 ?_
            refine z_sipush cx (by decide) dX12_read_270 ?_
            refine z_bipush cx (by decide) dX12_read_273 ?_
            refine lv_aload_n cx.1 cx.2.1 dX12_read_275 rfl (lv_at hl 1 rfl) ?_
            refine z_gets cx hp (T := TX12) 12 7 (u0 + 4) rfl zin_12 (by decide) (by decide) ru0 rfl fl_X12_19 dX12_read_276 ?_
            refine z_bipush cx (by decide) dX12_read_279 ?_
            refine z_iald cx hp (zs_12_7 u0 (kt_lt ru0 (by decide)) ru0) (by decide) dX12_read_281 hf (fun x25 rx25 hf => ?_)
            refine z_imul cx dX12_read_282 ?_
            refine z_iadd cx dX12_read_283 ?_
            refine lv_iload cx.1 cx.2.1 dX12_read_284 (lv_at hl 6 rfl) ?_
            refine z_iadd cx dX12_read_286 ?_
            refine lv_iload cx.1 cx.2.1 dX12_read_287 (lv_at hl 0 rfl) ?_
            refine z_iast cx hp (zs_12_9 u0 (kt_lt ru0 (by decide)) ru0) (rng_wr _) rx24 dX12_read_289 hf (fun h H locs hp hf => ?_)
            refine lv_aload_n cx.1 cx.2.1 dX12_read_290 rfl (lv_at hl 1 rfl) ?_
            refine lv_dup cx.1 cx.2.1 dX12_read_291 rfl ?_
            refine z_geti cx hp (T := TX12) 12 17 rfl zin_12 (by decide) (by decide) ru0 rfl fl_X12_193 dX12_read_292 hf (fun x26 rx26 hf => ?_)
            refine z_iconst cx dX12_read_295 ?_
            refine z_iadd cx dX12_read_296 ?_
            refine z_puti cx hp (T := TX12) tyX12 tyX12_ok nmX12 12 17 (rng_wr _) rfl zin_12 (by decide) (by decide) ru0 rfl rfl rfl fl_X12_193 dX12_read_297 hf (fun h H locs hp hf => ?_)
            refine z_iinc cx (fun x27 => [(6, .int (ii x27)), (7, .int (ii x24)), (0, .ref (B + u0)), (1, .int (ii u1)), (2, .int (ii u2)), (3, .int (ii u3)), (5, .int (ii u5))]) dX12_read_300 hl (k := 6) rfl (by decide) (fun _ => rfl) hf (fun x27 rx27 hf ls hl => ?_)
            refine lv_goto (tgt := 215) cx.1 cx.2.1 dX12_read_303 (by decide) ?_
            exact ih x27 h _ _ ls rx27 hp (lv_sub hl [2, 3, 4, 5, 6, 0] rfl) hf
          · exact hk260  h _ _ ls  hp (lv_sub hl [1] rfl) hf
    · exact hk306  h _ _ ls  hp (lv_sub hl [0, 1, 2, 3] rfl) hf
def LX12_read_75 (F : Nat) (u0 : Nat) (u1 : Int) (u2 : Int) (u3 : Int) (k320 : Int → HF → RO) (k248 : HF → RO) (k260 : HF → RO) (k154 : HF → RO) (k110 : HF → RO) (k93 : HF → RO) : Nat → HF → RO
  | 0, _ => none
  | n + 1, h =>
    zgf h u0 17 fun x14 =>
    if x14 < u2 then (
      zbd (fX12_byteAt F u0 u2 h) fun r15 h =>
      if r15 = 59 then (
        zrd h (u0 + 4) 8 fun x16 =>
        if x16 = 4 then (
          k110  h
        ) else (
          zgf h u0 17 fun x17 =>
          zpf h u0 17 (wr (x17 + 1)) fun h =>
          zbd (fX12_byteAt F u0 u2 h) fun r18 h =>
          zjn (fun (x160_4 : Int) (h : HF) => (
            zjn (fun (y183_0 : Int) (h : HF) => (
              zrd h (u0 + 4) 8 fun x19 =>
              zwr h (u0 + 5) (wr (32 + x19)) y183_0 fun h =>
              zgf h u0 17 fun x20 =>
              zpf h u0 17 (wr (x20 + 1)) fun h =>
              zjn (fun  (h : HF) => (
                zrd h (u0 + 4) 8 fun x21 =>
                zwr h (u0 + 4) 8 (wr (x21 + 1)) fun h =>
                LX12_read_75 F u0 u1 u2 u3 k320 k248 k260 k154 k110 k93 n  h
              )) fun j306 =>
              LX12_read_215 F u0 u1 u2 u3 y183_0 j306 k248 k260 F 0 h
            )) fun j183 =>
            if x160_4 = 99 then (
              j183 0 h
            ) else (
              if x160_4 = 117 then (
                j183 1 h
              ) else (
                j183 2 h
              )
            )
          )) fun j160 =>
          if r18 = 99 then (
            j160 r18 h
          ) else (
            if r18 = 117 then (
              j160 r18 h
            ) else (
              if r18 = 98 then (
                j160 r18 h
              ) else (
                k154  h
              )
            )
          )
        )
      ) else (
        k93  h
      )
    ) else (
      k320 u3 h
    )
set_option maxHeartbeats 4000000 in
set_option maxRecDepth 100000 in
theorem wX12_read_75 {p : Program} {l : Launch} {e : Env} {s : State} {m : MethodId} {args : Array Value} {below : List Frame} {meth : Method} {c : Code} {Q : State → Prop} {g : zG} {B : Nat} {o : Int × HF} (F : Nat) (cx : Cx p s m args meth c cX12_read 8 RX12 (some .int) g B) (u0 : Nat) (ru0 : kt u0 = 15) (u1 : Int) (ru1 : rng u1) (u2 : Int) (ru2 : rng u2) (u3 : Int) (ru3 : rng u3) (k320 : Int → HF → RO) (hk320 : ∀ (x3 : Int) (h : HF) (H : Heap) (locs : List Loc) (ls : Array Slot), rng x3 → Hp g B s h H locs → lv_has ls 8 [(0, .ref (B + u0)), (1, .int (ii u1)), (3, .int (ii x3))] → k320 x3 h = some o → W p l e (rmn 1) s m args below meth c H locs 0 0 Q (F0 m 320 ls [])) (k248 : HF → RO) (hk248 : ∀  (h : HF) (H : Heap) (locs : List Loc) (ls : Array Slot), Hp g B s h H locs → lv_has ls 8 [(0, .ref (B + u0))] → k248  h = some o → W p l e (rmn 1) s m args below meth c H locs 0 0 Q (F0 m 248 ls [])) (k260 : HF → RO) (hk260 : ∀  (h : HF) (H : Heap) (locs : List Loc) (ls : Array Slot), Hp g B s h H locs → lv_has ls 8 [(0, .ref (B + u0))] → k260  h = some o → W p l e (rmn 1) s m args below meth c H locs 0 0 Q (F0 m 260 ls [])) (k154 : HF → RO) (hk154 : ∀  (h : HF) (H : Heap) (locs : List Loc) (ls : Array Slot), Hp g B s h H locs → lv_has ls 8 [(0, .ref (B + u0))] → k154  h = some o → W p l e (rmn 1) s m args below meth c H locs 0 0 Q (F0 m 154 ls [])) (k110 : HF → RO) (hk110 : ∀  (h : HF) (H : Heap) (locs : List Loc) (ls : Array Slot), Hp g B s h H locs → lv_has ls 8 [(0, .ref (B + u0))] → k110  h = some o → W p l e (rmn 1) s m args below meth c H locs 0 0 Q (F0 m 110 ls [])) (k93 : HF → RO) (hk93 : ∀  (h : HF) (H : Heap) (locs : List Loc) (ls : Array Slot), Hp g B s h H locs → lv_has ls 8 [(0, .ref (B + u0))] → k93  h = some o → W p l e (rmn 1) s m args below meth c H locs 0 0 Q (F0 m 93 ls [])) : ∀ (n : Nat)  (h : HF) (H : Heap) (locs : List Loc) (ls : Array Slot), Hp g B s h H locs → lv_has ls 8 [(0, .ref (B + u0)), (1, .int (ii u1)), (2, .int (ii u2)), (3, .int (ii u3))] → LX12_read_75 F u0 u1 u2 u3 k320 k248 k260 k154 k110 k93 n  h = some o → W p l e (rmn 1) s m args below meth c H locs 0 0 Q (F0 m 75 ls []) := by
  intro n
  induction n with
  | zero =>
    intro  h H locs ls  hp hl hf
    cases hf
  | succ n ih =>
    intro  h H locs ls  hp hl hf
    rw [LX12_read_75] at hf
    refine lv_aload_n cx.1 cx.2.1 dX12_read_75 rfl (lv_at hl 0 rfl) ?_
    refine z_geti cx hp (T := TX12) 12 17 rfl zin_12 (by decide) (by decide) ru0 rfl fl_X12_193 dX12_read_76 hf (fun x14 rx14 hf => ?_)
    refine lv_iload_n cx.1 cx.2.1 dX12_read_79 rfl (lv_at hl 2 rfl) ?_
    refine z_icmp_ge cx rx14 ru2 (tgt := 320) dX12_read_80 (by decide) hf (fun _ hf => ?_) (fun _ hf => ?_)
    · refine lv_aload_n cx.1 cx.2.1 dX12_read_83 rfl (lv_at hl 0 rfl) ?_
      refine lv_iload_n cx.1 cx.2.1 dX12_read_84 rfl (lv_at hl 2 rfl) ?_
      refine z_ci cx hp (fun o' hx => zrunV (n := 1) (As := [.int (ii u2)]) (rest := []) cx hp (mX12_byteAt F l g B h u0 u2 ru0 ru2 o' hx) 12 ru0 (by decide) rfl vw_X12_byteAt ml_X12_196 (by decide) rfl hl.1 rfl (Nat.le_of_ble_eq_true rfl) dX12_read_85) hf (fun r15 h H locs rr15 hp hf => ?_)
      refine z_bipush cx (by decide) dX12_read_88 ?_
      refine z_icmp_eq cx rr15 (by decide) (tgt := 99) dX12_read_90 (by decide) hf (fun _ hf => ?_) (fun _ hf => ?_)
      · refine lv_aload_n cx.1 cx.2.1 dX12_read_99 rfl (lv_at hl 0 rfl) ?_
        refine z_gets cx hp (T := TX12) 12 7 (u0 + 4) rfl zin_12 (by decide) (by decide) ru0 rfl fl_X12_19 dX12_read_100 ?_
        refine z_bipush cx (by decide) dX12_read_103 ?_
        refine z_iald cx hp (zs_12_7 u0 (kt_lt ru0 (by decide)) ru0) (by decide) dX12_read_105 hf (fun x16 rx16 hf => ?_)
        refine z_iconst cx dX12_read_106 ?_
        refine z_icmp_ne cx rx16 (by decide) (tgt := 116) dX12_read_107 (by decide) hf (fun _ hf => ?_) (fun _ hf => ?_)
        · exact hk110  h _ _ ls  hp (lv_sub hl [0] rfl) hf
        · refine lv_aload_n cx.1 cx.2.1 dX12_read_116 rfl (lv_at hl 0 rfl) ?_
          refine lv_dup cx.1 cx.2.1 dX12_read_117 rfl ?_
          refine z_geti cx hp (T := TX12) 12 17 rfl zin_12 (by decide) (by decide) ru0 rfl fl_X12_193 dX12_read_118 hf (fun x17 rx17 hf => ?_)
          refine z_iconst cx dX12_read_121 ?_
          refine z_iadd cx dX12_read_122 ?_
          refine z_puti cx hp (T := TX12) tyX12 tyX12_ok nmX12 12 17 (rng_wr _) rfl zin_12 (by decide) (by decide) ru0 rfl rfl rfl fl_X12_193 dX12_read_123 hf (fun h H locs hp hf => ?_)
          refine lv_aload_n cx.1 cx.2.1 dX12_read_126 rfl (lv_at hl 0 rfl) ?_
          refine lv_iload_n cx.1 cx.2.1 dX12_read_127 rfl (lv_at hl 2 rfl) ?_
          refine z_ci cx hp (fun o' hx => zrunV (n := 1) (As := [.int (ii u2)]) (rest := []) cx hp (mX12_byteAt F l g B h u0 u2 ru0 ru2 o' hx) 12 ru0 (by decide) rfl vw_X12_byteAt ml_X12_196 (by decide) rfl hl.1 rfl (Nat.le_of_ble_eq_true rfl) dX12_read_128) hf (fun r18 h H locs rr18 hp hf => ?_)
          refine lv_istore (lv' := [(4, .int (ii r18)), (0, .ref (B + u0)), (1, .int (ii u1)), (2, .int (ii u2)), (3, .int (ii u3))]) cx.1 cx.2.1 dX12_read_131 hl (by decide) rfl (fun ls hl => ?_)
          refine lv_iload cx.1 cx.2.1 dX12_read_133 (lv_at hl 0 rfl) ?_
          refine z_bipush cx (by decide) dX12_read_135 ?_
          refine z_jn hf (fun j => ∀ (x160_4 : Int) (h : HF) (H : Heap) (locs : List Loc) (ls : Array Slot), rng x160_4 → Hp g B s h H locs → lv_has ls 8 [(0, .ref (B + u0)), (1, .int (ii u1)), (2, .int (ii u2)), (3, .int (ii u3)), (4, .int (ii x160_4))] → j x160_4 h = some o → W p l e (rmn 1) s m args below meth c H locs 0 0 Q (F0 m 160 ls [])) ?_ (fun j160 hj160 hf => ?_)
          · intro x160_4 h H locs ls rx160_4 hp hl hf
            refine lv_iload cx.1 cx.2.1 dX12_read_160 (lv_at hl 4 rfl) ?_
            refine z_bipush cx (by decide) dX12_read_162 ?_
            refine z_jn hf (fun j => ∀ (y183_0 : Int) (h : HF) (H : Heap) (locs : List Loc) (ls : Array Slot), rng y183_0 → Hp g B s h H locs → lv_has ls 8 [(0, .ref (B + u0)), (1, .int (ii u1)), (2, .int (ii u2)), (3, .int (ii u3))] → j y183_0 h = some o → W p l e (rmn 1) s m args below meth c H locs 0 0 Q (F0 m 183 ls [.int (ii y183_0)])) ?_ (fun j183 hj183 hf => ?_)
            · intro y183_0 h H locs ls ry183_0 hp hl hf
              refine lv_istore (lv' := [(5, .int (ii y183_0)), (0, .ref (B + u0)), (1, .int (ii u1)), (2, .int (ii u2)), (3, .int (ii u3))]) cx.1 cx.2.1 dX12_read_183 hl (by decide) rfl (fun ls hl => ?_)
              refine lv_aload_n cx.1 cx.2.1 dX12_read_185 rfl (lv_at hl 1 rfl) ?_
              refine z_gets cx hp (T := TX12) 12 8 (u0 + 5) rfl zin_12 (by decide) (by decide) ru0 rfl fl_X12_22 dX12_read_186 ?_
              refine z_bipush cx (by decide) dX12_read_189 ?_
              refine lv_aload_n cx.1 cx.2.1 dX12_read_191 rfl (lv_at hl 1 rfl) ?_
              refine z_gets cx hp (T := TX12) 12 7 (u0 + 4) rfl zin_12 (by decide) (by decide) ru0 rfl fl_X12_19 dX12_read_192 ?_
              refine z_bipush cx (by decide) dX12_read_195 ?_
              refine z_iald cx hp (zs_12_7 u0 (kt_lt ru0 (by decide)) ru0) (by decide) dX12_read_197 hf (fun x19 rx19 hf => ?_)
              refine z_iadd cx dX12_read_198 ?_
              refine lv_iload cx.1 cx.2.1 dX12_read_199 (lv_at hl 0 rfl) ?_
              refine z_iast cx hp (zs_12_8 u0 (kt_lt ru0 (by decide)) ru0) (rng_wr _) ry183_0 dX12_read_201 hf (fun h H locs hp hf => ?_)
              refine lv_aload_n cx.1 cx.2.1 dX12_read_202 rfl (lv_at hl 1 rfl) ?_
              refine lv_dup cx.1 cx.2.1 dX12_read_203 rfl ?_
              refine z_geti cx hp (T := TX12) 12 17 rfl zin_12 (by decide) (by decide) ru0 rfl fl_X12_193 dX12_read_204 hf (fun x20 rx20 hf => ?_)
              refine z_iconst cx dX12_read_207 ?_
              refine z_iadd cx dX12_read_208 ?_
              refine z_puti cx hp (T := TX12) tyX12 tyX12_ok nmX12 12 17 (rng_wr _) rfl zin_12 (by decide) (by decide) ru0 rfl rfl rfl fl_X12_193 dX12_read_209 hf (fun h H locs hp hf => ?_)
              refine z_iconst cx dX12_read_212 ?_
              refine lv_istore (lv' := [(6, .int (ii 0)), (5, .int (ii y183_0)), (0, .ref (B + u0)), (1, .int (ii u1)), (2, .int (ii u2)), (3, .int (ii u3))]) cx.1 cx.2.1 dX12_read_213 hl (by decide) rfl (fun ls hl => ?_)
              refine z_jn hf (fun j => ∀  (h : HF) (H : Heap) (locs : List Loc) (ls : Array Slot), Hp g B s h H locs → lv_has ls 8 [(0, .ref (B + u0)), (1, .int (ii u1)), (2, .int (ii u2)), (3, .int (ii u3))] → j  h = some o → W p l e (rmn 1) s m args below meth c H locs 0 0 Q (F0 m 306 ls [])) ?_ (fun j306 hj306 hf => ?_)
              · intro  h H locs ls  hp hl hf
                refine lv_aload_n cx.1 cx.2.1 dX12_read_306 rfl (lv_at hl 0 rfl) ?_
                refine z_gets cx hp (T := TX12) 12 7 (u0 + 4) rfl zin_12 (by decide) (by decide) ru0 rfl fl_X12_19 dX12_read_307 ?_
                refine z_bipush cx (by decide) dX12_read_310 ?_
                refine lv_dup2_11 cx.1 cx.2.1 dX12_read_312 rfl rfl ?_
                refine z_iald cx hp (zs_12_7 u0 (kt_lt ru0 (by decide)) ru0) (by decide) dX12_read_313 hf (fun x21 rx21 hf => ?_)
                refine z_iconst cx dX12_read_314 ?_
                refine z_iadd cx dX12_read_315 ?_
                refine z_iast cx hp (zs_12_7 u0 (kt_lt ru0 (by decide)) ru0) (by decide) (rng_wr _) dX12_read_316 hf (fun h H locs hp hf => ?_)
                refine lv_goto (tgt := 75) cx.1 cx.2.1 dX12_read_317 (by decide) ?_
                exact ih  h _ _ ls  hp (lv_sub hl [0, 1, 2, 3] rfl) hf
              exact wX12_read_215 F cx u0 ru0 u1 ru1 u2 ru2 u3 ru3 y183_0 ry183_0 j306 hj306 k248 hk248 k260 hk260 F 0 h _ _ ls (by decide) hp (lv_sub hl [2, 3, 4, 5, 1, 0] rfl) hf
            refine z_icmp_ne cx rx160_4 (by decide) (tgt := 171) dX12_read_164 (by decide) hf (fun _ hf => ?_) (fun _ hf => ?_)
            · refine z_iconst cx dX12_read_167 ?_
              refine lv_goto (tgt := 183) cx.1 cx.2.1 dX12_read_168 (by decide) ?_
              exact hj183 0 h _ _ ls (by decide) hp (lv_sub hl [0, 1, 2, 3] rfl) hf
            · refine lv_iload cx.1 cx.2.1 dX12_read_171 (lv_at hl 4 rfl) ?_
              refine z_bipush cx (by decide) dX12_read_173 ?_
              refine z_icmp_ne cx rx160_4 (by decide) (tgt := 182) dX12_read_175 (by decide) hf (fun _ hf => ?_) (fun _ hf => ?_)
              · refine z_iconst cx dX12_read_178 ?_
                refine lv_goto (tgt := 183) cx.1 cx.2.1 dX12_read_179 (by decide) ?_
                exact hj183 1 h _ _ ls (by decide) hp (lv_sub hl [0, 1, 2, 3] rfl) hf
              · refine z_iconst cx dX12_read_182 ?_
                exact hj183 2 h _ _ ls (by decide) hp (lv_sub hl [0, 1, 2, 3] rfl) hf
          refine z_icmp_eq cx rr18 (by decide) (tgt := 160) dX12_read_137 (by decide) hf (fun _ hf => ?_) (fun _ hf => ?_)
          · exact hj160 r18 h _ _ ls rr18 hp (lv_sub hl [1, 2, 3, 4, 0] rfl) hf
          · refine lv_iload cx.1 cx.2.1 dX12_read_140 (lv_at hl 0 rfl) ?_
            refine z_bipush cx (by decide) dX12_read_142 ?_
            refine z_icmp_eq cx rr18 (by decide) (tgt := 160) dX12_read_144 (by decide) hf (fun _ hf => ?_) (fun _ hf => ?_)
            · exact hj160 r18 h _ _ ls rr18 hp (lv_sub hl [1, 2, 3, 4, 0] rfl) hf
            · refine lv_iload cx.1 cx.2.1 dX12_read_147 (lv_at hl 0 rfl) ?_
              refine z_bipush cx (by decide) dX12_read_149 ?_
              refine z_icmp_eq cx rr18 (by decide) (tgt := 160) dX12_read_151 (by decide) hf (fun _ hf => ?_) (fun _ hf => ?_)
              · exact hj160 r18 h _ _ ls rr18 hp (lv_sub hl [1, 2, 3, 4, 0] rfl) hf
              · exact hk154  h _ _ ls  hp (lv_sub hl [1] rfl) hf
      · exact hk93  h _ _ ls  hp (lv_sub hl [0] rfl) hf
    · exact hk320 u3 h _ _ ls ru3 hp (lv_sub hl [0, 1, 3] rfl) hf
def fX12_read (F : Nat) (a0 : Nat) (a1 : Int) (h : HF) : RO :=
  zpf h a0 0 0 fun h =>
  zgf h a0 2 fun x1 =>
  zpf h a0 2 0 fun h =>
  zbd (fX12_isDrawer F a0 a1 h) fun r2 h =>
  if r2 = 0 then (
    some ((-3), h)
  ) else (
    zpf h a0 5 0 fun h =>
    zpf h a0 17 0 fun h =>
    zbd (fX12_byteAt F a0 x1 h) fun r3 h =>
    zlet (wr (r3 - 48)) fun x4 =>
    zjn (fun  (h : HF) => (
      zbd (fX12_readFault F a0 1 h) fun r5 h =>
      some (r5, h)
    )) fun j56 =>
    if x4 < 1 then (
      j56  h
    ) else (
      if 7 < x4 then (
        j56  h
      ) else (
        zbd (fX12_blank F a0 8 x4 0 h) fun _ h =>
        zpf h a0 17 1 fun h =>
        zjn (fun (x320_3 : Int) (h : HF) => (
          zbd (fX12_keep F a0 a1 h) fun _ h =>
          zbd (fX12_copy F a0 8 a1 h) fun _ h =>
          some (x320_3, h)
        )) fun j320 =>
        zjn (fun  (h : HF) => (
          zbd (fX12_readFault F a0 1 h) fun r9 h =>
          some (r9, h)
        )) fun j248 =>
        zjn (fun  (h : HF) => (
          zbd (fX12_readFault F a0 2 h) fun r10 h =>
          some (r10, h)
        )) fun j260 =>
        zjn (fun  (h : HF) => (
          zbd (fX12_readFault F a0 1 h) fun r11 h =>
          some (r11, h)
        )) fun j154 =>
        zjn (fun  (h : HF) => (
          zbd (fX12_readFault F a0 3 h) fun r12 h =>
          some (r12, h)
        )) fun j110 =>
        zjn (fun  (h : HF) => (
          zbd (fX12_readFault F a0 1 h) fun r13 h =>
          some (r13, h)
        )) fun j93 =>
        LX12_read_75 F a0 a1 x1 x4 j320 j248 j260 j154 j110 j93 F  h
      )
    )
  )
set_option maxHeartbeats 4000000 in
set_option maxRecDepth 100000 in
theorem mX12_read (F : Nat) (l : Launch) (g : zG) (B : Nat) (h : HF) (a0 : Nat) (a1 : Int) (ra0 : kt a0 = 15) (ra1 : rng a1) : CTi l g B yX12_read cX12_read 8 (some .int) 1 [.ref (B + a0), .int (ii a1)] h (fX12_read F a0 a1 h) := by
  refine z_enterI (by decide) rfl (Nat.le_of_ble_eq_true rfl) ?_
  intro p e s m args below meth c ls o Q cx hp hl hf hQ
  have hl : lv_has ls 8 [(0, .ref (B + a0)), (1, .int (ii a1))] := hl
  unfold fX12_read at hf
  refine lv_aload_n cx.1 cx.2.1 dX12_read_0 rfl (lv_at hl 0 rfl) ?_
  refine z_iconst cx dX12_read_1 ?_
  refine z_puti cx hp (T := TX12) tyX12 tyX12_ok nmX12 12 0 (by decide) rfl zin_12 (by decide) (by decide) ra0 rfl rfl rfl fl_X12_115 dX12_read_2 hf (fun h H locs hp hf => ?_)
  refine lv_aload_n cx.1 cx.2.1 dX12_read_5 rfl (lv_at hl 0 rfl) ?_
  refine z_geti cx hp (T := TX12) 12 2 rfl zin_12 (by decide) (by decide) ra0 rfl fl_X12_119 dX12_read_6 hf (fun x1 rx1 hf => ?_)
  refine lv_istore_n (lv' := [(2, .int (ii x1)), (0, .ref (B + a0)), (1, .int (ii a1))]) cx.1 cx.2.1 dX12_read_9 rfl hl (by decide) rfl (fun ls hl => ?_)
  refine lv_aload_n cx.1 cx.2.1 dX12_read_10 rfl (lv_at hl 1 rfl) ?_
  refine z_iconst cx dX12_read_11 ?_
  refine z_puti cx hp (T := TX12) tyX12 tyX12_ok nmX12 12 2 (by decide) rfl zin_12 (by decide) (by decide) ra0 rfl rfl rfl fl_X12_119 dX12_read_12 hf (fun h H locs hp hf => ?_)
  refine lv_aload_n cx.1 cx.2.1 dX12_read_15 rfl (lv_at hl 1 rfl) ?_
  refine lv_iload_n cx.1 cx.2.1 dX12_read_16 rfl (lv_at hl 2 rfl) ?_
  refine z_ci cx hp (fun o' hx => zrunV (n := 1) (As := [.int (ii a1)]) (rest := []) cx hp (mX12_isDrawer F l g B h a0 a1 ra0 ra1 o' hx) 12 ra0 (by decide) rfl vw_X12_isDrawer ml_X12_146 (by decide) rfl hl.1 rfl (Nat.le_of_ble_eq_true rfl) dX12_read_17) hf (fun r2 h H locs rr2 hp hf => ?_)
  refine z_if_ne cx rr2 (tgt := 26) dX12_read_20 (by decide) hf (fun _ hf => ?_) (fun _ hf => ?_)
  · refine z_bipush cx (by decide) dX12_read_23 ?_
    rw [hQ]; exact z_iret cx hp (by decide) dX12_read_25 hf
  · refine lv_aload_n cx.1 cx.2.1 dX12_read_26 rfl (lv_at hl 1 rfl) ?_
    refine z_iconst cx dX12_read_27 ?_
    refine z_puti cx hp (T := TX12) tyX12 tyX12_ok nmX12 12 5 (by decide) rfl zin_12 (by decide) (by decide) ra0 rfl rfl rfl fl_X12_190 dX12_read_28 hf (fun h H locs hp hf => ?_)
    refine lv_aload_n cx.1 cx.2.1 dX12_read_31 rfl (lv_at hl 1 rfl) ?_
    refine z_iconst cx dX12_read_32 ?_
    refine z_puti cx hp (T := TX12) tyX12 tyX12_ok nmX12 12 17 (by decide) rfl zin_12 (by decide) (by decide) ra0 rfl rfl rfl fl_X12_193 dX12_read_33 hf (fun h H locs hp hf => ?_)
    refine lv_aload_n cx.1 cx.2.1 dX12_read_36 rfl (lv_at hl 1 rfl) ?_
    refine lv_iload_n cx.1 cx.2.1 dX12_read_37 rfl (lv_at hl 0 rfl) ?_
    refine z_ci cx hp (fun o' hx => zrunV (n := 1) (As := [.int (ii x1)]) (rest := []) cx hp (mX12_byteAt F l g B h a0 x1 ra0 rx1 o' hx) 12 ra0 (by decide) rfl vw_X12_byteAt ml_X12_196 (by decide) rfl hl.1 rfl (Nat.le_of_ble_eq_true rfl) dX12_read_38) hf (fun r3 h H locs rr3 hp hf => ?_)
    refine z_bipush cx (by decide) dX12_read_41 ?_
    refine z_isub cx dX12_read_43 ?_
    refine z_let (rng_wr _) hf (fun x4 rx4 hf => ?_)
    refine lv_istore_n (lv' := [(3, .int (ii x4)), (2, .int (ii x1)), (0, .ref (B + a0)), (1, .int (ii a1))]) cx.1 cx.2.1 dX12_read_44 rfl hl (by decide) rfl (fun ls hl => ?_)
    refine lv_iload_n cx.1 cx.2.1 dX12_read_45 rfl (lv_at hl 0 rfl) ?_
    refine z_iconst cx dX12_read_46 ?_
    refine z_jn hf (fun j => ∀  (h : HF) (H : Heap) (locs : List Loc) (ls : Array Slot), Hp g B s h H locs → lv_has ls 8 [(0, .ref (B + a0))] → j  h = some o → W p l e (rmn 1) s m args below meth c H locs 0 0 Q (F0 m 56 ls [])) ?_ (fun j56 hj56 hf => ?_)
    · intro  h H locs ls  hp hl hf
      refine lv_aload_n cx.1 cx.2.1 dX12_read_56 rfl (lv_at hl 0 rfl) ?_
      refine z_iconst cx dX12_read_57 ?_
      refine z_ci cx hp (fun o' hx => zrunV (n := 1) (As := [.int (ii 1)]) (rest := []) cx hp (mX12_readFault F l g B h a0 1 ra0 (by decide) o' hx) 12 ra0 (by decide) rfl vw_X12_readFault ml_X12_199 (by decide) rfl hl.1 rfl (Nat.le_of_ble_eq_true rfl) dX12_read_58) hf (fun r5 h H locs rr5 hp hf => ?_)
      rw [hQ]; exact z_iret cx hp rr5 dX12_read_61 hf
    refine z_icmp_lt cx rx4 (by decide) (tgt := 56) dX12_read_47 (by decide) hf (fun _ hf => ?_) (fun _ hf => ?_)
    · exact hj56  h _ _ ls  hp (lv_sub hl [2] rfl) hf
    · refine lv_iload_n cx.1 cx.2.1 dX12_read_50 rfl (lv_at hl 0 rfl) ?_
      refine z_bipush cx (by decide) dX12_read_51 ?_
      refine z_icmp_le cx rx4 (by decide) (tgt := 62) dX12_read_53 (by decide) hf (fun _ hf => ?_) (fun _ hf => ?_)
      · exact hj56  h _ _ ls  hp (lv_sub hl [2] rfl) hf
      · refine lv_aload_n cx.1 cx.2.1 dX12_read_62 rfl (lv_at hl 2 rfl) ?_
        refine z_bipush cx (by decide) dX12_read_63 ?_
        refine lv_iload_n cx.1 cx.2.1 dX12_read_65 rfl (lv_at hl 0 rfl) ?_
        refine z_iconst cx dX12_read_66 ?_
        refine z_cv cx hp (fun o' hx => zrunV (n := 1) (As := [.int (ii 8), .int (ii x4), .int (ii 0)]) (rest := []) cx hp (mX12_blank F l g B h a0 8 x4 0 ra0 (by decide) rx4 (by decide) o' hx) 12 ra0 (by decide) rfl vw_X12_blank ml_X12_156 (by decide) rfl hl.1 rfl (Nat.le_of_ble_eq_true rfl) dX12_read_67) hf (fun _ h H locs hp hf => ?_)
        refine lv_aload_n cx.1 cx.2.1 dX12_read_70 rfl (lv_at hl 2 rfl) ?_
        refine z_iconst cx dX12_read_71 ?_
        refine z_puti cx hp (T := TX12) tyX12 tyX12_ok nmX12 12 17 (by decide) rfl zin_12 (by decide) (by decide) ra0 rfl rfl rfl fl_X12_193 dX12_read_72 hf (fun h H locs hp hf => ?_)
        refine z_jn hf (fun j => ∀ (x320_3 : Int) (h : HF) (H : Heap) (locs : List Loc) (ls : Array Slot), rng x320_3 → Hp g B s h H locs → lv_has ls 8 [(0, .ref (B + a0)), (1, .int (ii a1)), (3, .int (ii x320_3))] → j x320_3 h = some o → W p l e (rmn 1) s m args below meth c H locs 0 0 Q (F0 m 320 ls [])) ?_ (fun j320 hj320 hf => ?_)
        · intro x320_3 h H locs ls rx320_3 hp hl hf
          refine lv_aload_n cx.1 cx.2.1 dX12_read_320 rfl (lv_at hl 0 rfl) ?_
          refine lv_iload_n cx.1 cx.2.1 dX12_read_321 rfl (lv_at hl 1 rfl) ?_
          refine z_cv cx hp (fun o' hx => zrunV (n := 1) (As := [.int (ii a1)]) (rest := []) cx hp (mX12_keep F l g B h a0 a1 ra0 ra1 o' hx) 12 ra0 (by decide) rfl vw_X12_keep ml_X12_153 (by decide) rfl hl.1 rfl (Nat.le_of_ble_eq_true rfl) dX12_read_322) hf (fun _ h H locs hp hf => ?_)
          refine lv_aload_n cx.1 cx.2.1 dX12_read_325 rfl (lv_at hl 0 rfl) ?_
          refine z_bipush cx (by decide) dX12_read_326 ?_
          refine lv_iload_n cx.1 cx.2.1 dX12_read_328 rfl (lv_at hl 1 rfl) ?_
          refine z_cv cx hp (fun o' hx => zrunV (n := 1) (As := [.int (ii 8), .int (ii a1)]) (rest := []) cx hp (mX12_copy F l g B h a0 8 a1 ra0 (by decide) ra1 o' hx) 12 ra0 (by decide) rfl vw_X12_copy ml_X12_202 (by decide) rfl hl.1 rfl (Nat.le_of_ble_eq_true rfl) dX12_read_329) hf (fun _ h H locs hp hf => ?_)
          refine lv_iload_n cx.1 cx.2.1 dX12_read_332 rfl (lv_at hl 2 rfl) ?_
          rw [hQ]; exact z_iret cx hp rx320_3 dX12_read_333 hf
        refine z_jn hf (fun j => ∀  (h : HF) (H : Heap) (locs : List Loc) (ls : Array Slot), Hp g B s h H locs → lv_has ls 8 [(0, .ref (B + a0))] → j  h = some o → W p l e (rmn 1) s m args below meth c H locs 0 0 Q (F0 m 248 ls [])) ?_ (fun j248 hj248 hf => ?_)
        · intro  h H locs ls  hp hl hf
          refine lv_aload_n cx.1 cx.2.1 dX12_read_248 rfl (lv_at hl 0 rfl) ?_
          refine z_iconst cx dX12_read_249 ?_
          refine z_ci cx hp (fun o' hx => zrunV (n := 1) (As := [.int (ii 1)]) (rest := []) cx hp (mX12_readFault F l g B h a0 1 ra0 (by decide) o' hx) 12 ra0 (by decide) rfl vw_X12_readFault ml_X12_199 (by decide) rfl hl.1 rfl (Nat.le_of_ble_eq_true rfl) dX12_read_250) hf (fun r9 h H locs rr9 hp hf => ?_)
          rw [hQ]; exact z_iret cx hp rr9 dX12_read_253 hf
        refine z_jn hf (fun j => ∀  (h : HF) (H : Heap) (locs : List Loc) (ls : Array Slot), Hp g B s h H locs → lv_has ls 8 [(0, .ref (B + a0))] → j  h = some o → W p l e (rmn 1) s m args below meth c H locs 0 0 Q (F0 m 260 ls [])) ?_ (fun j260 hj260 hf => ?_)
        · intro  h H locs ls  hp hl hf
          refine lv_aload_n cx.1 cx.2.1 dX12_read_260 rfl (lv_at hl 0 rfl) ?_
          refine z_iconst cx dX12_read_261 ?_
          refine z_ci cx hp (fun o' hx => zrunV (n := 1) (As := [.int (ii 2)]) (rest := []) cx hp (mX12_readFault F l g B h a0 2 ra0 (by decide) o' hx) 12 ra0 (by decide) rfl vw_X12_readFault ml_X12_199 (by decide) rfl hl.1 rfl (Nat.le_of_ble_eq_true rfl) dX12_read_262) hf (fun r10 h H locs rr10 hp hf => ?_)
          rw [hQ]; exact z_iret cx hp rr10 dX12_read_265 hf
        refine z_jn hf (fun j => ∀  (h : HF) (H : Heap) (locs : List Loc) (ls : Array Slot), Hp g B s h H locs → lv_has ls 8 [(0, .ref (B + a0))] → j  h = some o → W p l e (rmn 1) s m args below meth c H locs 0 0 Q (F0 m 154 ls [])) ?_ (fun j154 hj154 hf => ?_)
        · intro  h H locs ls  hp hl hf
          refine lv_aload_n cx.1 cx.2.1 dX12_read_154 rfl (lv_at hl 0 rfl) ?_
          refine z_iconst cx dX12_read_155 ?_
          refine z_ci cx hp (fun o' hx => zrunV (n := 1) (As := [.int (ii 1)]) (rest := []) cx hp (mX12_readFault F l g B h a0 1 ra0 (by decide) o' hx) 12 ra0 (by decide) rfl vw_X12_readFault ml_X12_199 (by decide) rfl hl.1 rfl (Nat.le_of_ble_eq_true rfl) dX12_read_156) hf (fun r11 h H locs rr11 hp hf => ?_)
          rw [hQ]; exact z_iret cx hp rr11 dX12_read_159 hf
        refine z_jn hf (fun j => ∀  (h : HF) (H : Heap) (locs : List Loc) (ls : Array Slot), Hp g B s h H locs → lv_has ls 8 [(0, .ref (B + a0))] → j  h = some o → W p l e (rmn 1) s m args below meth c H locs 0 0 Q (F0 m 110 ls [])) ?_ (fun j110 hj110 hf => ?_)
        · intro  h H locs ls  hp hl hf
          refine lv_aload_n cx.1 cx.2.1 dX12_read_110 rfl (lv_at hl 0 rfl) ?_
          refine z_iconst cx dX12_read_111 ?_
          refine z_ci cx hp (fun o' hx => zrunV (n := 1) (As := [.int (ii 3)]) (rest := []) cx hp (mX12_readFault F l g B h a0 3 ra0 (by decide) o' hx) 12 ra0 (by decide) rfl vw_X12_readFault ml_X12_199 (by decide) rfl hl.1 rfl (Nat.le_of_ble_eq_true rfl) dX12_read_112) hf (fun r12 h H locs rr12 hp hf => ?_)
          rw [hQ]; exact z_iret cx hp rr12 dX12_read_115 hf
        refine z_jn hf (fun j => ∀  (h : HF) (H : Heap) (locs : List Loc) (ls : Array Slot), Hp g B s h H locs → lv_has ls 8 [(0, .ref (B + a0))] → j  h = some o → W p l e (rmn 1) s m args below meth c H locs 0 0 Q (F0 m 93 ls [])) ?_ (fun j93 hj93 hf => ?_)
        · intro  h H locs ls  hp hl hf
          refine lv_aload_n cx.1 cx.2.1 dX12_read_93 rfl (lv_at hl 0 rfl) ?_
          refine z_iconst cx dX12_read_94 ?_
          refine z_ci cx hp (fun o' hx => zrunV (n := 1) (As := [.int (ii 1)]) (rest := []) cx hp (mX12_readFault F l g B h a0 1 ra0 (by decide) o' hx) 12 ra0 (by decide) rfl vw_X12_readFault ml_X12_199 (by decide) rfl hl.1 rfl (Nat.le_of_ble_eq_true rfl) dX12_read_95) hf (fun r13 h H locs rr13 hp hf => ?_)
          rw [hQ]; exact z_iret cx hp rr13 dX12_read_98 hf
        exact wX12_read_75 F cx a0 ra0 a1 ra1 x1 rx1 x4 rx4 j320 hj320 j248 hj248 j260 hj260 j154 hj154 j110 hj110 j93 hj93 F  h _ _ ls  hp (lv_sub hl [2, 3, 1, 0] rfl) hf
theorem dX12_undo_0 : decode cX12_undo 0 = .ok (.aload_n 0, 1) := by decide +kernel
theorem dX12_undo_1 : decode cX12_undo 1 = .ok (.iconst 0, 1) := by decide +kernel
theorem dX12_undo_2 : decode cX12_undo 2 = .ok (.putfield 115, 3) := by decide +kernel
theorem dX12_undo_5 : decode cX12_undo 5 = .ok (.aload_n 0, 1) := by decide +kernel
theorem dX12_undo_6 : decode cX12_undo 6 = .ok (.getfield 143, 3) := by decide +kernel
theorem dX12_undo_9 : decode cX12_undo 9 = .ok (.ifCond .ne 5, 3) := by decide +kernel
theorem dX12_undo_12 : decode cX12_undo 12 = .ok (.iconst (-1), 1) := by decide +kernel
theorem dX12_undo_13 : decode cX12_undo 13 = .ok (.ireturn, 1) := by decide +kernel
theorem dX12_undo_14 : decode cX12_undo 14 = .ok (.aload_n 0, 1) := by decide +kernel
theorem dX12_undo_15 : decode cX12_undo 15 = .ok (.aload_n 0, 1) := by decide +kernel
theorem dX12_undo_16 : decode cX12_undo 16 = .ok (.getfield 140, 3) := by decide +kernel
theorem dX12_undo_19 : decode cX12_undo 19 = .ok (.bipush 15, 2) := by decide +kernel
theorem dX12_undo_21 : decode cX12_undo 21 = .ok (.iadd, 1) := by decide +kernel
theorem dX12_undo_22 : decode cX12_undo 22 = .ok (.bipush 16, 2) := by decide +kernel
theorem dX12_undo_24 : decode cX12_undo 24 = .ok (.irem, 1) := by decide +kernel
theorem dX12_undo_25 : decode cX12_undo 25 = .ok (.putfield 140, 3) := by decide +kernel
theorem dX12_undo_28 : decode cX12_undo 28 = .ok (.aload_n 0, 1) := by decide +kernel
theorem dX12_undo_29 : decode cX12_undo 29 = .ok (.dup, 1) := by decide +kernel
theorem dX12_undo_30 : decode cX12_undo 30 = .ok (.getfield 143, 3) := by decide +kernel
theorem dX12_undo_33 : decode cX12_undo 33 = .ok (.iconst 1, 1) := by decide +kernel
theorem dX12_undo_34 : decode cX12_undo 34 = .ok (.isub, 1) := by decide +kernel
theorem dX12_undo_35 : decode cX12_undo 35 = .ok (.putfield 143, 3) := by decide +kernel
theorem dX12_undo_38 : decode cX12_undo 38 = .ok (.aload_n 0, 1) := by decide +kernel
theorem dX12_undo_39 : decode cX12_undo 39 = .ok (.getfield 140, 3) := by decide +kernel
theorem dX12_undo_42 : decode cX12_undo 42 = .ok (.istore_n 1, 1) := by decide +kernel
theorem dX12_undo_43 : decode cX12_undo 43 = .ok (.aload_n 0, 1) := by decide +kernel
theorem dX12_undo_44 : decode cX12_undo 44 = .ok (.getfield 28, 3) := by decide +kernel
theorem dX12_undo_47 : decode cX12_undo 47 = .ok (.iload_n 1, 1) := by decide +kernel
theorem dX12_undo_48 : decode cX12_undo 48 = .ok (.iaload, 1) := by decide +kernel
theorem dX12_undo_49 : decode cX12_undo 49 = .ok (.istore_n 2, 1) := by decide +kernel
theorem dX12_undo_50 : decode cX12_undo 50 = .ok (.aload_n 0, 1) := by decide +kernel
theorem dX12_undo_51 : decode cX12_undo 51 = .ok (.getfield 16, 3) := by decide +kernel
theorem dX12_undo_54 : decode cX12_undo 54 = .ok (.iload_n 2, 1) := by decide +kernel
theorem dX12_undo_55 : decode cX12_undo 55 = .ok (.aload_n 0, 1) := by decide +kernel
theorem dX12_undo_56 : decode cX12_undo 56 = .ok (.getfield 31, 3) := by decide +kernel
theorem dX12_undo_59 : decode cX12_undo 59 = .ok (.iload_n 1, 1) := by decide +kernel
theorem dX12_undo_60 : decode cX12_undo 60 = .ok (.iaload, 1) := by decide +kernel
theorem dX12_undo_61 : decode cX12_undo 61 = .ok (.iastore, 1) := by decide +kernel
theorem dX12_undo_62 : decode cX12_undo 62 = .ok (.aload_n 0, 1) := by decide +kernel
theorem dX12_undo_63 : decode cX12_undo 63 = .ok (.getfield 19, 3) := by decide +kernel
theorem dX12_undo_66 : decode cX12_undo 66 = .ok (.iload_n 2, 1) := by decide +kernel
theorem dX12_undo_67 : decode cX12_undo 67 = .ok (.aload_n 0, 1) := by decide +kernel
theorem dX12_undo_68 : decode cX12_undo 68 = .ok (.getfield 34, 3) := by decide +kernel
theorem dX12_undo_71 : decode cX12_undo 71 = .ok (.iload_n 1, 1) := by decide +kernel
theorem dX12_undo_72 : decode cX12_undo 72 = .ok (.iaload, 1) := by decide +kernel
theorem dX12_undo_73 : decode cX12_undo 73 = .ok (.iastore, 1) := by decide +kernel
theorem dX12_undo_74 : decode cX12_undo 74 = .ok (.iconst 0, 1) := by decide +kernel
theorem dX12_undo_75 : decode cX12_undo 75 = .ok (.istore_n 3, 1) := by decide +kernel
theorem dX12_undo_76 : decode cX12_undo 76 = .ok (.iload_n 3, 1) := by decide +kernel
theorem dX12_undo_77 : decode cX12_undo 77 = .ok (.iconst 4, 1) := by decide +kernel
theorem dX12_undo_78 : decode cX12_undo 78 = .ok (.if_icmp .ge 29, 3) := by decide +kernel
theorem dX12_undo_81 : decode cX12_undo 81 = .ok (.aload_n 0, 1) := by decide +kernel
theorem dX12_undo_82 : decode cX12_undo 82 = .ok (.getfield 22, 3) := by decide +kernel
theorem dX12_undo_85 : decode cX12_undo 85 = .ok (.iconst 4, 1) := by decide +kernel
theorem dX12_undo_86 : decode cX12_undo 86 = .ok (.iload_n 2, 1) := by decide +kernel
theorem dX12_undo_87 : decode cX12_undo 87 = .ok (.imul, 1) := by decide +kernel
theorem dX12_undo_88 : decode cX12_undo 88 = .ok (.iload_n 3, 1) := by decide +kernel
theorem dX12_undo_89 : decode cX12_undo 89 = .ok (.iadd, 1) := by decide +kernel
theorem dX12_undo_90 : decode cX12_undo 90 = .ok (.aload_n 0, 1) := by decide +kernel
theorem dX12_undo_91 : decode cX12_undo 91 = .ok (.getfield 37, 3) := by decide +kernel
theorem dX12_undo_94 : decode cX12_undo 94 = .ok (.iconst 4, 1) := by decide +kernel
theorem dX12_undo_95 : decode cX12_undo 95 = .ok (.iload_n 1, 1) := by decide +kernel
theorem dX12_undo_96 : decode cX12_undo 96 = .ok (.imul, 1) := by decide +kernel
theorem dX12_undo_97 : decode cX12_undo 97 = .ok (.iload_n 3, 1) := by decide +kernel
theorem dX12_undo_98 : decode cX12_undo 98 = .ok (.iadd, 1) := by decide +kernel
theorem dX12_undo_99 : decode cX12_undo 99 = .ok (.iaload, 1) := by decide +kernel
theorem dX12_undo_100 : decode cX12_undo 100 = .ok (.iastore, 1) := by decide +kernel
theorem dX12_undo_101 : decode cX12_undo 101 = .ok (.iinc 3 1, 3) := by decide +kernel
theorem dX12_undo_104 : decode cX12_undo 104 = .ok (.goto (-28), 3) := by decide +kernel
theorem dX12_undo_107 : decode cX12_undo 107 = .ok (.iconst 0, 1) := by decide +kernel
theorem dX12_undo_108 : decode cX12_undo 108 = .ok (.istore_n 3, 1) := by decide +kernel
theorem dX12_undo_109 : decode cX12_undo 109 = .ok (.iload_n 3, 1) := by decide +kernel
theorem dX12_undo_110 : decode cX12_undo 110 = .ok (.sipush 196, 3) := by decide +kernel
theorem dX12_undo_113 : decode cX12_undo 113 = .ok (.if_icmp .ge 33, 3) := by decide +kernel
theorem dX12_undo_116 : decode cX12_undo 116 = .ok (.aload_n 0, 1) := by decide +kernel
theorem dX12_undo_117 : decode cX12_undo 117 = .ok (.getfield 25, 3) := by decide +kernel
theorem dX12_undo_120 : decode cX12_undo 120 = .ok (.sipush 196, 3) := by decide +kernel
theorem dX12_undo_123 : decode cX12_undo 123 = .ok (.iload_n 2, 1) := by decide +kernel
theorem dX12_undo_124 : decode cX12_undo 124 = .ok (.imul, 1) := by decide +kernel
theorem dX12_undo_125 : decode cX12_undo 125 = .ok (.iload_n 3, 1) := by decide +kernel
theorem dX12_undo_126 : decode cX12_undo 126 = .ok (.iadd, 1) := by decide +kernel
theorem dX12_undo_127 : decode cX12_undo 127 = .ok (.aload_n 0, 1) := by decide +kernel
theorem dX12_undo_128 : decode cX12_undo 128 = .ok (.getfield 40, 3) := by decide +kernel
theorem dX12_undo_131 : decode cX12_undo 131 = .ok (.sipush 196, 3) := by decide +kernel
theorem dX12_undo_134 : decode cX12_undo 134 = .ok (.iload_n 1, 1) := by decide +kernel
theorem dX12_undo_135 : decode cX12_undo 135 = .ok (.imul, 1) := by decide +kernel
theorem dX12_undo_136 : decode cX12_undo 136 = .ok (.iload_n 3, 1) := by decide +kernel
theorem dX12_undo_137 : decode cX12_undo 137 = .ok (.iadd, 1) := by decide +kernel
theorem dX12_undo_138 : decode cX12_undo 138 = .ok (.iaload, 1) := by decide +kernel
theorem dX12_undo_139 : decode cX12_undo 139 = .ok (.iastore, 1) := by decide +kernel
theorem dX12_undo_140 : decode cX12_undo 140 = .ok (.iinc 3 1, 3) := by decide +kernel
theorem dX12_undo_143 : decode cX12_undo 143 = .ok (.goto (-34), 3) := by decide +kernel
theorem dX12_undo_146 : decode cX12_undo 146 = .ok (.iload_n 2, 1) := by decide +kernel
theorem dX12_undo_147 : decode cX12_undo 147 = .ok (.ireturn, 1) := by decide +kernel
def LX12_undo_109 (F : Nat) (u0 : Nat) (u1 : Int) (u2 : Int) (k146 : Int → HF → RO) : Nat → Int → HF → RO
  | 0, _, _ => none
  | n + 1, v3, h =>
    if v3 < 196 then (
      zrd h (u0 + 11) (wr ((wr (196 * u1)) + v3)) fun x8 =>
      zwr h (u0 + 6) (wr ((wr (196 * u2)) + v3)) x8 fun h =>
      zlet (wr (v3 + 1)) fun x9 =>
      LX12_undo_109 F u0 u1 u2 k146 n x9 h
    ) else (
      k146 u2 h
    )
set_option maxHeartbeats 4000000 in
set_option maxRecDepth 100000 in
theorem wX12_undo_109 {p : Program} {l : Launch} {e : Env} {s : State} {m : MethodId} {args : Array Value} {below : List Frame} {meth : Method} {c : Code} {Q : State → Prop} {g : zG} {B : Nat} {o : Int × HF} (F : Nat) (cx : Cx p s m args meth c cX12_undo 4 RX12 (some .int) g B) (u0 : Nat) (ru0 : kt u0 = 15) (u1 : Int) (ru1 : rng u1) (u2 : Int) (ru2 : rng u2) (k146 : Int → HF → RO) (hk146 : ∀ (x2 : Int) (h : HF) (H : Heap) (locs : List Loc) (ls : Array Slot), rng x2 → Hp g B s h H locs → lv_has ls 4 [(2, .int (ii x2))] → k146 x2 h = some o → W p l e (rmn 0) s m args below meth c H locs 0 0 Q (F0 m 146 ls [])) : ∀ (n : Nat) (v3 : Int) (h : HF) (H : Heap) (locs : List Loc) (ls : Array Slot), rng v3 → Hp g B s h H locs → lv_has ls 4 [(0, .ref (B + u0)), (1, .int (ii u1)), (2, .int (ii u2)), (3, .int (ii v3))] → LX12_undo_109 F u0 u1 u2 k146 n v3 h = some o → W p l e (rmn 0) s m args below meth c H locs 0 0 Q (F0 m 109 ls []) := by
  intro n
  induction n with
  | zero =>
    intro v3 h H locs ls rv3 hp hl hf
    cases hf
  | succ n ih =>
    intro v3 h H locs ls rv3 hp hl hf
    rw [LX12_undo_109] at hf
    refine lv_iload_n cx.1 cx.2.1 dX12_undo_109 rfl (lv_at hl 3 rfl) ?_
    refine z_sipush cx (by decide) dX12_undo_110 ?_
    refine z_icmp_ge cx rv3 (by decide) (tgt := 146) dX12_undo_113 (by decide) hf (fun _ hf => ?_) (fun _ hf => ?_)
    · refine lv_aload_n cx.1 cx.2.1 dX12_undo_116 rfl (lv_at hl 0 rfl) ?_
      refine z_gets cx hp (T := TX12) 12 9 (u0 + 6) rfl zin_12 (by decide) (by decide) ru0 rfl fl_X12_25 dX12_undo_117 ?_
      refine z_sipush cx (by decide) dX12_undo_120 ?_
      refine lv_iload_n cx.1 cx.2.1 dX12_undo_123 rfl (lv_at hl 2 rfl) ?_
      refine z_imul cx dX12_undo_124 ?_
      refine lv_iload_n cx.1 cx.2.1 dX12_undo_125 rfl (lv_at hl 3 rfl) ?_
      refine z_iadd cx dX12_undo_126 ?_
      refine lv_aload_n cx.1 cx.2.1 dX12_undo_127 rfl (lv_at hl 0 rfl) ?_
      refine z_gets cx hp (T := TX12) 12 14 (u0 + 11) rfl zin_12 (by decide) (by decide) ru0 rfl fl_X12_40 dX12_undo_128 ?_
      refine z_sipush cx (by decide) dX12_undo_131 ?_
      refine lv_iload_n cx.1 cx.2.1 dX12_undo_134 rfl (lv_at hl 1 rfl) ?_
      refine z_imul cx dX12_undo_135 ?_
      refine lv_iload_n cx.1 cx.2.1 dX12_undo_136 rfl (lv_at hl 3 rfl) ?_
      refine z_iadd cx dX12_undo_137 ?_
      refine z_iald cx hp (zs_12_14 u0 (kt_lt ru0 (by decide)) ru0) (rng_wr _) dX12_undo_138 hf (fun x8 rx8 hf => ?_)
      refine z_iast cx hp (zs_12_9 u0 (kt_lt ru0 (by decide)) ru0) (rng_wr _) rx8 dX12_undo_139 hf (fun h H locs hp hf => ?_)
      refine z_iinc cx (fun x9 => [(3, .int (ii x9)), (0, .ref (B + u0)), (1, .int (ii u1)), (2, .int (ii u2))]) dX12_undo_140 hl (k := 3) rfl (by decide) (fun _ => rfl) hf (fun x9 rx9 hf ls hl => ?_)
      refine lv_goto (tgt := 109) cx.1 cx.2.1 dX12_undo_143 (by decide) ?_
      exact ih x9 h _ _ ls rx9 hp (lv_sub hl [1, 2, 3, 0] rfl) hf
    · exact hk146 u2 h _ _ ls ru2 hp (lv_sub hl [2] rfl) hf
def LX12_undo_76 (F : Nat) (u0 : Nat) (u1 : Int) (u2 : Int) (k107 : Int → Int → HF → RO) : Nat → Int → HF → RO
  | 0, _, _ => none
  | n + 1, v3, h =>
    if v3 < 4 then (
      zrd h (u0 + 10) (wr ((wr (4 * u1)) + v3)) fun x10 =>
      zwr h (u0 + 5) (wr ((wr (4 * u2)) + v3)) x10 fun h =>
      zlet (wr (v3 + 1)) fun x11 =>
      LX12_undo_76 F u0 u1 u2 k107 n x11 h
    ) else (
      k107 u1 u2 h
    )
set_option maxHeartbeats 4000000 in
set_option maxRecDepth 100000 in
theorem wX12_undo_76 {p : Program} {l : Launch} {e : Env} {s : State} {m : MethodId} {args : Array Value} {below : List Frame} {meth : Method} {c : Code} {Q : State → Prop} {g : zG} {B : Nat} {o : Int × HF} (F : Nat) (cx : Cx p s m args meth c cX12_undo 4 RX12 (some .int) g B) (u0 : Nat) (ru0 : kt u0 = 15) (u1 : Int) (ru1 : rng u1) (u2 : Int) (ru2 : rng u2) (k107 : Int → Int → HF → RO) (hk107 : ∀ (x1 : Int) (x2 : Int) (h : HF) (H : Heap) (locs : List Loc) (ls : Array Slot), rng x1 → rng x2 → Hp g B s h H locs → lv_has ls 4 [(0, .ref (B + u0)), (1, .int (ii x1)), (2, .int (ii x2))] → k107 x1 x2 h = some o → W p l e (rmn 0) s m args below meth c H locs 0 0 Q (F0 m 107 ls [])) : ∀ (n : Nat) (v3 : Int) (h : HF) (H : Heap) (locs : List Loc) (ls : Array Slot), rng v3 → Hp g B s h H locs → lv_has ls 4 [(0, .ref (B + u0)), (1, .int (ii u1)), (2, .int (ii u2)), (3, .int (ii v3))] → LX12_undo_76 F u0 u1 u2 k107 n v3 h = some o → W p l e (rmn 0) s m args below meth c H locs 0 0 Q (F0 m 76 ls []) := by
  intro n
  induction n with
  | zero =>
    intro v3 h H locs ls rv3 hp hl hf
    cases hf
  | succ n ih =>
    intro v3 h H locs ls rv3 hp hl hf
    rw [LX12_undo_76] at hf
    refine lv_iload_n cx.1 cx.2.1 dX12_undo_76 rfl (lv_at hl 3 rfl) ?_
    refine z_iconst cx dX12_undo_77 ?_
    refine z_icmp_ge cx rv3 (by decide) (tgt := 107) dX12_undo_78 (by decide) hf (fun _ hf => ?_) (fun _ hf => ?_)
    · refine lv_aload_n cx.1 cx.2.1 dX12_undo_81 rfl (lv_at hl 0 rfl) ?_
      refine z_gets cx hp (T := TX12) 12 8 (u0 + 5) rfl zin_12 (by decide) (by decide) ru0 rfl fl_X12_22 dX12_undo_82 ?_
      refine z_iconst cx dX12_undo_85 ?_
      refine lv_iload_n cx.1 cx.2.1 dX12_undo_86 rfl (lv_at hl 2 rfl) ?_
      refine z_imul cx dX12_undo_87 ?_
      refine lv_iload_n cx.1 cx.2.1 dX12_undo_88 rfl (lv_at hl 3 rfl) ?_
      refine z_iadd cx dX12_undo_89 ?_
      refine lv_aload_n cx.1 cx.2.1 dX12_undo_90 rfl (lv_at hl 0 rfl) ?_
      refine z_gets cx hp (T := TX12) 12 13 (u0 + 10) rfl zin_12 (by decide) (by decide) ru0 rfl fl_X12_37 dX12_undo_91 ?_
      refine z_iconst cx dX12_undo_94 ?_
      refine lv_iload_n cx.1 cx.2.1 dX12_undo_95 rfl (lv_at hl 1 rfl) ?_
      refine z_imul cx dX12_undo_96 ?_
      refine lv_iload_n cx.1 cx.2.1 dX12_undo_97 rfl (lv_at hl 3 rfl) ?_
      refine z_iadd cx dX12_undo_98 ?_
      refine z_iald cx hp (zs_12_13 u0 (kt_lt ru0 (by decide)) ru0) (rng_wr _) dX12_undo_99 hf (fun x10 rx10 hf => ?_)
      refine z_iast cx hp (zs_12_8 u0 (kt_lt ru0 (by decide)) ru0) (rng_wr _) rx10 dX12_undo_100 hf (fun h H locs hp hf => ?_)
      refine z_iinc cx (fun x11 => [(3, .int (ii x11)), (0, .ref (B + u0)), (1, .int (ii u1)), (2, .int (ii u2))]) dX12_undo_101 hl (k := 3) rfl (by decide) (fun _ => rfl) hf (fun x11 rx11 hf ls hl => ?_)
      refine lv_goto (tgt := 76) cx.1 cx.2.1 dX12_undo_104 (by decide) ?_
      exact ih x11 h _ _ ls rx11 hp (lv_sub hl [1, 2, 3, 0] rfl) hf
    · exact hk107 u1 u2 h _ _ ls ru1 ru2 hp (lv_sub hl [0, 1, 2] rfl) hf
def fX12_undo (F : Nat) (a0 : Nat) (h : HF) : RO :=
  zpf h a0 0 0 fun h =>
  zgf h a0 16 fun x1 =>
  if x1 = 0 then (
    some ((-1), h)
  ) else (
    zgf h a0 15 fun x2 =>
    zdv 16 <|
    zpf h a0 15 (wrem (wr (x2 + 15)) 16) fun h =>
    zgf h a0 16 fun x3 =>
    zpf h a0 16 (wr (x3 - 1)) fun h =>
    zgf h a0 15 fun x4 =>
    zrd h (a0 + 7) x4 fun x5 =>
    zrd h (a0 + 8) x4 fun x6 =>
    zwr h (a0 + 3) x5 x6 fun h =>
    zrd h (a0 + 9) x4 fun x7 =>
    zwr h (a0 + 4) x5 x7 fun h =>
    zjn (fun (x107_1 : Int) (x107_2 : Int) (h : HF) => (
      zjn (fun (x146_2 : Int) (h : HF) => (
        some (x146_2, h)
      )) fun j146 =>
      LX12_undo_109 F a0 x107_1 x107_2 j146 F 0 h
    )) fun j107 =>
    LX12_undo_76 F a0 x4 x5 j107 F 0 h
  )
set_option maxHeartbeats 4000000 in
set_option maxRecDepth 100000 in
theorem mX12_undo (F : Nat) (l : Launch) (g : zG) (B : Nat) (h : HF) (a0 : Nat) (ra0 : kt a0 = 15) : CTi l g B yX12_undo cX12_undo 4 (some .int) 0 [.ref (B + a0)] h (fX12_undo F a0 h) := by
  refine z_enterI (by decide) rfl (Nat.le_of_ble_eq_true rfl) ?_
  intro p e s m args below meth c ls o Q cx hp hl hf hQ
  have hl : lv_has ls 4 [(0, .ref (B + a0))] := hl
  unfold fX12_undo at hf
  refine lv_aload_n cx.1 cx.2.1 dX12_undo_0 rfl (lv_at hl 0 rfl) ?_
  refine z_iconst cx dX12_undo_1 ?_
  refine z_puti cx hp (T := TX12) tyX12 tyX12_ok nmX12 12 0 (by decide) rfl zin_12 (by decide) (by decide) ra0 rfl rfl rfl fl_X12_115 dX12_undo_2 hf (fun h H locs hp hf => ?_)
  refine lv_aload_n cx.1 cx.2.1 dX12_undo_5 rfl (lv_at hl 0 rfl) ?_
  refine z_geti cx hp (T := TX12) 12 16 rfl zin_12 (by decide) (by decide) ra0 rfl fl_X12_143 dX12_undo_6 hf (fun x1 rx1 hf => ?_)
  refine z_if_ne cx rx1 (tgt := 14) dX12_undo_9 (by decide) hf (fun _ hf => ?_) (fun _ hf => ?_)
  · refine z_iconst cx dX12_undo_12 ?_
    rw [hQ]; exact z_iret cx hp (by decide) dX12_undo_13 hf
  · refine lv_aload_n cx.1 cx.2.1 dX12_undo_14 rfl (lv_at hl 0 rfl) ?_
    refine lv_aload_n cx.1 cx.2.1 dX12_undo_15 rfl (lv_at hl 0 rfl) ?_
    refine z_geti cx hp (T := TX12) 12 15 rfl zin_12 (by decide) (by decide) ra0 rfl fl_X12_140 dX12_undo_16 hf (fun x2 rx2 hf => ?_)
    refine z_bipush cx (by decide) dX12_undo_19 ?_
    refine z_iadd cx dX12_undo_21 ?_
    refine z_bipush cx (by decide) dX12_undo_22 ?_
    refine z_irem cx (rng_wr _) (by decide) dX12_undo_24 hf (fun hf => ?_)
    refine z_puti cx hp (T := TX12) tyX12 tyX12_ok nmX12 12 15 (rng_rem _ _) rfl zin_12 (by decide) (by decide) ra0 rfl rfl rfl fl_X12_140 dX12_undo_25 hf (fun h H locs hp hf => ?_)
    refine lv_aload_n cx.1 cx.2.1 dX12_undo_28 rfl (lv_at hl 0 rfl) ?_
    refine lv_dup cx.1 cx.2.1 dX12_undo_29 rfl ?_
    refine z_geti cx hp (T := TX12) 12 16 rfl zin_12 (by decide) (by decide) ra0 rfl fl_X12_143 dX12_undo_30 hf (fun x3 rx3 hf => ?_)
    refine z_iconst cx dX12_undo_33 ?_
    refine z_isub cx dX12_undo_34 ?_
    refine z_puti cx hp (T := TX12) tyX12 tyX12_ok nmX12 12 16 (rng_wr _) rfl zin_12 (by decide) (by decide) ra0 rfl rfl rfl fl_X12_143 dX12_undo_35 hf (fun h H locs hp hf => ?_)
    refine lv_aload_n cx.1 cx.2.1 dX12_undo_38 rfl (lv_at hl 0 rfl) ?_
    refine z_geti cx hp (T := TX12) 12 15 rfl zin_12 (by decide) (by decide) ra0 rfl fl_X12_140 dX12_undo_39 hf (fun x4 rx4 hf => ?_)
    refine lv_istore_n (lv' := [(1, .int (ii x4)), (0, .ref (B + a0))]) cx.1 cx.2.1 dX12_undo_42 rfl hl (by decide) rfl (fun ls hl => ?_)
    refine lv_aload_n cx.1 cx.2.1 dX12_undo_43 rfl (lv_at hl 1 rfl) ?_
    refine z_gets cx hp (T := TX12) 12 10 (a0 + 7) rfl zin_12 (by decide) (by decide) ra0 rfl fl_X12_28 dX12_undo_44 ?_
    refine lv_iload_n cx.1 cx.2.1 dX12_undo_47 rfl (lv_at hl 0 rfl) ?_
    refine z_iald cx hp (zs_12_10 a0 (kt_lt ra0 (by decide)) ra0) rx4 dX12_undo_48 hf (fun x5 rx5 hf => ?_)
    refine lv_istore_n (lv' := [(2, .int (ii x5)), (1, .int (ii x4)), (0, .ref (B + a0))]) cx.1 cx.2.1 dX12_undo_49 rfl hl (by decide) rfl (fun ls hl => ?_)
    refine lv_aload_n cx.1 cx.2.1 dX12_undo_50 rfl (lv_at hl 2 rfl) ?_
    refine z_gets cx hp (T := TX12) 12 6 (a0 + 3) rfl zin_12 (by decide) (by decide) ra0 rfl fl_X12_16 dX12_undo_51 ?_
    refine lv_iload_n cx.1 cx.2.1 dX12_undo_54 rfl (lv_at hl 0 rfl) ?_
    refine lv_aload_n cx.1 cx.2.1 dX12_undo_55 rfl (lv_at hl 2 rfl) ?_
    refine z_gets cx hp (T := TX12) 12 11 (a0 + 8) rfl zin_12 (by decide) (by decide) ra0 rfl fl_X12_31 dX12_undo_56 ?_
    refine lv_iload_n cx.1 cx.2.1 dX12_undo_59 rfl (lv_at hl 1 rfl) ?_
    refine z_iald cx hp (zs_12_11 a0 (kt_lt ra0 (by decide)) ra0) rx4 dX12_undo_60 hf (fun x6 rx6 hf => ?_)
    refine z_iast cx hp (zs_12_6 a0 (kt_lt ra0 (by decide)) ra0) rx5 rx6 dX12_undo_61 hf (fun h H locs hp hf => ?_)
    refine lv_aload_n cx.1 cx.2.1 dX12_undo_62 rfl (lv_at hl 2 rfl) ?_
    refine z_gets cx hp (T := TX12) 12 7 (a0 + 4) rfl zin_12 (by decide) (by decide) ra0 rfl fl_X12_19 dX12_undo_63 ?_
    refine lv_iload_n cx.1 cx.2.1 dX12_undo_66 rfl (lv_at hl 0 rfl) ?_
    refine lv_aload_n cx.1 cx.2.1 dX12_undo_67 rfl (lv_at hl 2 rfl) ?_
    refine z_gets cx hp (T := TX12) 12 12 (a0 + 9) rfl zin_12 (by decide) (by decide) ra0 rfl fl_X12_34 dX12_undo_68 ?_
    refine lv_iload_n cx.1 cx.2.1 dX12_undo_71 rfl (lv_at hl 1 rfl) ?_
    refine z_iald cx hp (zs_12_12 a0 (kt_lt ra0 (by decide)) ra0) rx4 dX12_undo_72 hf (fun x7 rx7 hf => ?_)
    refine z_iast cx hp (zs_12_7 a0 (kt_lt ra0 (by decide)) ra0) rx5 rx7 dX12_undo_73 hf (fun h H locs hp hf => ?_)
    refine z_iconst cx dX12_undo_74 ?_
    refine lv_istore_n (lv' := [(3, .int (ii 0)), (2, .int (ii x5)), (1, .int (ii x4)), (0, .ref (B + a0))]) cx.1 cx.2.1 dX12_undo_75 rfl hl (by decide) rfl (fun ls hl => ?_)
    refine z_jn hf (fun j => ∀ (x107_1 : Int) (x107_2 : Int) (h : HF) (H : Heap) (locs : List Loc) (ls : Array Slot), rng x107_1 → rng x107_2 → Hp g B s h H locs → lv_has ls 4 [(0, .ref (B + a0)), (1, .int (ii x107_1)), (2, .int (ii x107_2))] → j x107_1 x107_2 h = some o → W p l e (rmn 0) s m args below meth c H locs 0 0 Q (F0 m 107 ls [])) ?_ (fun j107 hj107 hf => ?_)
    · intro x107_1 x107_2 h H locs ls rx107_1 rx107_2 hp hl hf
      refine z_iconst cx dX12_undo_107 ?_
      refine lv_istore_n (lv' := [(3, .int (ii 0)), (0, .ref (B + a0)), (1, .int (ii x107_1)), (2, .int (ii x107_2))]) cx.1 cx.2.1 dX12_undo_108 rfl hl (by decide) rfl (fun ls hl => ?_)
      refine z_jn hf (fun j => ∀ (x146_2 : Int) (h : HF) (H : Heap) (locs : List Loc) (ls : Array Slot), rng x146_2 → Hp g B s h H locs → lv_has ls 4 [(2, .int (ii x146_2))] → j x146_2 h = some o → W p l e (rmn 0) s m args below meth c H locs 0 0 Q (F0 m 146 ls [])) ?_ (fun j146 hj146 hf => ?_)
      · intro x146_2 h H locs ls rx146_2 hp hl hf
        refine lv_iload_n cx.1 cx.2.1 dX12_undo_146 rfl (lv_at hl 0 rfl) ?_
        rw [hQ]; exact z_iret cx hp rx146_2 dX12_undo_147 hf
      exact wX12_undo_109 F cx a0 ra0 x107_1 rx107_1 x107_2 rx107_2 j146 hj146 F 0 h _ _ ls (by decide) hp (lv_sub hl [1, 2, 3, 0] rfl) hf
    exact wX12_undo_76 F cx a0 ra0 x4 rx4 x5 rx5 j107 hj107 F 0 h _ _ ls (by decide) hp (lv_sub hl [3, 2, 1, 0] rfl) hf
