theorem dX12_fault_0 : decode cX12_fault 0 = .ok (.aload_n 0, 1) := by decide +kernel
theorem dX12_fault_1 : decode cX12_fault 1 = .ok (.iconst 0, 1) := by decide +kernel
theorem dX12_fault_2 : decode cX12_fault 2 = .ok (.putfield 115, 3) := by decide +kernel
theorem dX12_fault_5 : decode cX12_fault 5 = .ok (.aload_n 0, 1) := by decide +kernel
theorem dX12_fault_6 : decode cX12_fault 6 = .ok (.getfield 190, 3) := by decide +kernel
theorem dX12_fault_9 : decode cX12_fault 9 = .ok (.ireturn, 1) := by decide +kernel
def fX12_fault (F : Nat) (a0 : Nat) (h : HF) : RO :=
  zpf h a0 0 0 fun h =>
  zgf h a0 5 fun x1 =>
  some (x1, h)
set_option maxHeartbeats 4000000 in
set_option maxRecDepth 100000 in
theorem mX12_fault (F : Nat) (l : Launch) (g : zG) (B : Nat) (h : HF) (a0 : Nat) (ra0 : kt a0 = 15) : CTi l g B yX12_fault cX12_fault 1 (some .int) 0 [.ref (B + a0)] h (fX12_fault F a0 h) := by
  refine z_enterI (by decide) rfl (Nat.le_of_ble_eq_true rfl) ?_
  intro p e s m args below meth c ls o Q cx hp hl hf hQ
  have hl : lv_has ls 1 [(0, .ref (B + a0))] := hl
  unfold fX12_fault at hf
  refine lv_aload_n cx.1 cx.2.1 dX12_fault_0 rfl (lv_at hl 0 rfl) ?_
  refine z_iconst cx dX12_fault_1 ?_
  refine z_puti cx hp (T := TX12) tyX12 tyX12_ok nmX12 12 0 (by decide) rfl zin_12 (by decide) (by decide) ra0 rfl rfl rfl fl_X12_115 dX12_fault_2 hf (fun h H locs hp hf => ?_)
  refine lv_aload_n cx.1 cx.2.1 dX12_fault_5 rfl (lv_at hl 0 rfl) ?_
  refine z_geti cx hp (T := TX12) 12 5 rfl zin_12 (by decide) (by decide) ra0 rfl fl_X12_190 dX12_fault_6 hf (fun x1 rx1 hf => ?_)
  rw [hQ]; exact z_iret cx hp rx1 dX12_fault_9 hf
theorem dX12_fits_0 : decode cX12_fits 0 = .ok (.iconst 1, 1) := by decide +kernel
theorem dX12_fits_1 : decode cX12_fits 1 = .ok (.istore_n 3, 1) := by decide +kernel
theorem dX12_fits_2 : decode cX12_fits 2 = .ok (.bipush 80, 2) := by decide +kernel
theorem dX12_fits_4 : decode cX12_fits 4 = .ok (.iload_n 2, 1) := by decide +kernel
theorem dX12_fits_5 : decode cX12_fits 5 = .ok (.imul, 1) := by decide +kernel
theorem dX12_fits_6 : decode cX12_fits 6 = .ok (.istore 4, 2) := by decide +kernel
theorem dX12_fits_8 : decode cX12_fits 8 = .ok (.iload 4, 2) := by decide +kernel
theorem dX12_fits_10 : decode cX12_fits 10 = .ok (.bipush 80, 2) := by decide +kernel
theorem dX12_fits_12 : decode cX12_fits 12 = .ok (.iload_n 2, 1) := by decide +kernel
theorem dX12_fits_13 : decode cX12_fits 13 = .ok (.imul, 1) := by decide +kernel
theorem dX12_fits_14 : decode cX12_fits 14 = .ok (.aload_n 0, 1) := by decide +kernel
theorem dX12_fits_15 : decode cX12_fits 15 = .ok (.getfield 61, 3) := by decide +kernel
theorem dX12_fits_18 : decode cX12_fits 18 = .ok (.iload_n 2, 1) := by decide +kernel
theorem dX12_fits_19 : decode cX12_fits 19 = .ok (.iaload, 1) := by decide +kernel
theorem dX12_fits_20 : decode cX12_fits 20 = .ok (.iadd, 1) := by decide +kernel
theorem dX12_fits_21 : decode cX12_fits 21 = .ok (.if_icmp .ge 63, 3) := by decide +kernel
theorem dX12_fits_24 : decode cX12_fits 24 = .ok (.aload_n 0, 1) := by decide +kernel
theorem dX12_fits_25 : decode cX12_fits 25 = .ok (.getfield 46, 3) := by decide +kernel
theorem dX12_fits_28 : decode cX12_fits 28 = .ok (.iload 4, 2) := by decide +kernel
theorem dX12_fits_30 : decode cX12_fits 30 = .ok (.iaload, 1) := by decide +kernel
theorem dX12_fits_31 : decode cX12_fits 31 = .ok (.iconst 3, 1) := by decide +kernel
theorem dX12_fits_32 : decode cX12_fits 32 = .ok (.isub, 1) := by decide +kernel
theorem dX12_fits_33 : decode cX12_fits 33 = .ok (.istore 5, 2) := by decide +kernel
theorem dX12_fits_35 : decode cX12_fits 35 = .ok (.iload_n 3, 1) := by decide +kernel
theorem dX12_fits_36 : decode cX12_fits 36 = .ok (.ifCond .eq 40, 3) := by decide +kernel
theorem dX12_fits_39 : decode cX12_fits 39 = .ok (.iload 5, 2) := by decide +kernel
theorem dX12_fits_41 : decode cX12_fits 41 = .ok (.ifCond .lt 31, 3) := by decide +kernel
theorem dX12_fits_44 : decode cX12_fits 44 = .ok (.iload 5, 2) := by decide +kernel
theorem dX12_fits_46 : decode cX12_fits 46 = .ok (.aload_n 0, 1) := by decide +kernel
theorem dX12_fits_47 : decode cX12_fits 47 = .ok (.getfield 19, 3) := by decide +kernel
theorem dX12_fits_50 : decode cX12_fits 50 = .ok (.iload_n 1, 1) := by decide +kernel
theorem dX12_fits_51 : decode cX12_fits 51 = .ok (.iaload, 1) := by decide +kernel
theorem dX12_fits_52 : decode cX12_fits 52 = .ok (.if_icmp .ge 24, 3) := by decide +kernel
theorem dX12_fits_55 : decode cX12_fits 55 = .ok (.aload_n 0, 1) := by decide +kernel
theorem dX12_fits_56 : decode cX12_fits 56 = .ok (.iload_n 1, 1) := by decide +kernel
theorem dX12_fits_57 : decode cX12_fits 57 = .ok (.iload 5, 2) := by decide +kernel
theorem dX12_fits_59 : decode cX12_fits 59 = .ok (.invokevirtual 129, 3) := by decide +kernel
theorem dX12_fits_62 : decode cX12_fits 62 = .ok (.aload_n 0, 1) := by decide +kernel
theorem dX12_fits_63 : decode cX12_fits 63 = .ok (.getfield 49, 3) := by decide +kernel
theorem dX12_fits_66 : decode cX12_fits 66 = .ok (.iload 4, 2) := by decide +kernel
theorem dX12_fits_68 : decode cX12_fits 68 = .ok (.iaload, 1) := by decide +kernel
theorem dX12_fits_69 : decode cX12_fits 69 = .ok (.if_icmp .ne 7, 3) := by decide +kernel
theorem dX12_fits_72 : decode cX12_fits 72 = .ok (.iconst 1, 1) := by decide +kernel
theorem dX12_fits_73 : decode cX12_fits 73 = .ok (.goto 4, 3) := by decide +kernel
theorem dX12_fits_76 : decode cX12_fits 76 = .ok (.iconst 0, 1) := by decide +kernel
theorem dX12_fits_77 : decode cX12_fits 77 = .ok (.istore_n 3, 1) := by decide +kernel
theorem dX12_fits_78 : decode cX12_fits 78 = .ok (.iinc 4 1, 3) := by decide +kernel
theorem dX12_fits_81 : decode cX12_fits 81 = .ok (.goto (-73), 3) := by decide +kernel
theorem dX12_fits_84 : decode cX12_fits 84 = .ok (.iload_n 3, 1) := by decide +kernel
theorem dX12_fits_85 : decode cX12_fits 85 = .ok (.ireturn, 1) := by decide +kernel
def LX12_fits_8 (F : Nat) (u0 : Nat) (u1 : Int) (u2 : Int) (k84 : Int → HF → RO) : Nat → Int → Int → HF → RO
  | 0, _, _, _ => none
  | n + 1, v3, v4, h =>
    zrd h (u0 + 18) u2 fun x2 =>
    if v4 < wr ((wr (80 * u2)) + x2) then (
      zrd h (u0 + 13) v4 fun x3 =>
      zlet (wr (x3 - 3)) fun x4 =>
      zjn (fun (x77_4 : Int) (y77_0 : Int) (h : HF) => (
        zlet (wr (x77_4 + 1)) fun x5 =>
        LX12_fits_8 F u0 u1 u2 k84 n y77_0 x5 h
      )) fun j77 =>
      zjn (fun (x76_4 : Int) (h : HF) => (
        j77 x76_4 0 h
      )) fun j76 =>
      if v3 = 0 then (
        j76 v4 h
      ) else (
        zjn (fun (x72_4 : Int) (h : HF) => (
          j77 x72_4 1 h
        )) fun j72 =>
        if x4 < 0 then (
          j72 v4 h
        ) else (
          zrd h (u0 + 4) u1 fun x6 =>
          if x4 < x6 then (
            zbd (fX12_arity F u0 u1 x4 h) fun r7 h =>
            zrd h (u0 + 14) v4 fun x8 =>
            if r7 = x8 then (
              j72 v4 h
            ) else (
              j76 v4 h
            )
          ) else (
            j76 v4 h
          )
        )
      )
    ) else (
      k84 v3 h
    )
set_option maxHeartbeats 4000000 in
set_option maxRecDepth 100000 in
theorem wX12_fits_8 {p : Program} {l : Launch} {e : Env} {s : State} {m : MethodId} {args : Array Value} {below : List Frame} {meth : Method} {c : Code} {Q : State → Prop} {g : zG} {B : Nat} {o : Int × HF} (F : Nat) (cx : Cx p s m args meth c cX12_fits 6 RX12 (some .boolean) g B) (u0 : Nat) (ru0 : kt u0 = 15) (u1 : Int) (ru1 : rng u1) (u2 : Int) (ru2 : rng u2) (k84 : Int → HF → RO) (hk84 : ∀ (x3 : Int) (h : HF) (H : Heap) (locs : List Loc) (ls : Array Slot), rng x3 → Hp g B s h H locs → lv_has ls 6 [(3, .int (ii x3))] → k84 x3 h = some o → W p l e (rmn 1) s m args below meth c H locs 0 0 Q (F0 m 84 ls [])) : ∀ (n : Nat) (v3 : Int) (v4 : Int) (h : HF) (H : Heap) (locs : List Loc) (ls : Array Slot), rng v3 → rng v4 → Hp g B s h H locs → lv_has ls 6 [(0, .ref (B + u0)), (1, .int (ii u1)), (2, .int (ii u2)), (3, .int (ii v3)), (4, .int (ii v4))] → LX12_fits_8 F u0 u1 u2 k84 n v3 v4 h = some o → W p l e (rmn 1) s m args below meth c H locs 0 0 Q (F0 m 8 ls []) := by
  intro n
  induction n with
  | zero =>
    intro v3 v4 h H locs ls rv3 rv4 hp hl hf
    cases hf
  | succ n ih =>
    intro v3 v4 h H locs ls rv3 rv4 hp hl hf
    rw [LX12_fits_8] at hf
    refine lv_iload cx.1 cx.2.1 dX12_fits_8 (lv_at hl 4 rfl) ?_
    refine z_bipush cx (by decide) dX12_fits_10 ?_
    refine lv_iload_n cx.1 cx.2.1 dX12_fits_12 rfl (lv_at hl 2 rfl) ?_
    refine z_imul cx dX12_fits_13 ?_
    refine lv_aload_n cx.1 cx.2.1 dX12_fits_14 rfl (lv_at hl 0 rfl) ?_
    refine z_gets cx hp (T := TX12) 12 24 (u0 + 18) rfl zin_12 (by decide) (by decide) ru0 rfl fl_X12_61 dX12_fits_15 ?_
    refine lv_iload_n cx.1 cx.2.1 dX12_fits_18 rfl (lv_at hl 2 rfl) ?_
    refine z_iald cx hp (zs_12_24 u0 (kt_lt ru0 (by decide)) ru0) ru2 dX12_fits_19 hf (fun x2 rx2 hf => ?_)
    refine z_iadd cx dX12_fits_20 ?_
    refine z_icmp_ge cx rv4 (rng_wr _) (tgt := 84) dX12_fits_21 (by decide) hf (fun _ hf => ?_) (fun _ hf => ?_)
    · refine lv_aload_n cx.1 cx.2.1 dX12_fits_24 rfl (lv_at hl 0 rfl) ?_
      refine z_gets cx hp (T := TX12) 12 19 (u0 + 13) rfl zin_12 (by decide) (by decide) ru0 rfl fl_X12_46 dX12_fits_25 ?_
      refine lv_iload cx.1 cx.2.1 dX12_fits_28 (lv_at hl 4 rfl) ?_
      refine z_iald cx hp (zs_12_19 u0 (kt_lt ru0 (by decide)) ru0) rv4 dX12_fits_30 hf (fun x3 rx3 hf => ?_)
      refine z_iconst cx dX12_fits_31 ?_
      refine z_isub cx dX12_fits_32 ?_
      refine z_let (rng_wr _) hf (fun x4 rx4 hf => ?_)
      refine lv_istore (lv' := [(5, .int (ii x4)), (0, .ref (B + u0)), (1, .int (ii u1)), (2, .int (ii u2)), (3, .int (ii v3)), (4, .int (ii v4))]) cx.1 cx.2.1 dX12_fits_33 hl (by decide) rfl (fun ls hl => ?_)
      refine lv_iload_n cx.1 cx.2.1 dX12_fits_35 rfl (lv_at hl 4 rfl) ?_
      refine z_jn hf (fun j => ∀ (x77_4 : Int) (y77_0 : Int) (h : HF) (H : Heap) (locs : List Loc) (ls : Array Slot), rng x77_4 → rng y77_0 → Hp g B s h H locs → lv_has ls 6 [(0, .ref (B + u0)), (1, .int (ii u1)), (2, .int (ii u2)), (4, .int (ii x77_4))] → j x77_4 y77_0 h = some o → W p l e (rmn 1) s m args below meth c H locs 0 0 Q (F0 m 77 ls [.int (ii y77_0)])) ?_ (fun j77 hj77 hf => ?_)
      · intro x77_4 y77_0 h H locs ls rx77_4 ry77_0 hp hl hf
        refine lv_istore_n (lv' := [(3, .int (ii y77_0)), (0, .ref (B + u0)), (1, .int (ii u1)), (2, .int (ii u2)), (4, .int (ii x77_4))]) cx.1 cx.2.1 dX12_fits_77 rfl hl (by decide) rfl (fun ls hl => ?_)
        refine z_iinc cx (fun x5 => [(4, .int (ii x5)), (3, .int (ii y77_0)), (0, .ref (B + u0)), (1, .int (ii u1)), (2, .int (ii u2))]) dX12_fits_78 hl (k := 4) rfl (by decide) (fun _ => rfl) hf (fun x5 rx5 hf ls hl => ?_)
        refine lv_goto (tgt := 8) cx.1 cx.2.1 dX12_fits_81 (by decide) ?_
        exact ih y77_0 x5 h _ _ ls ry77_0 rx5 hp (lv_sub hl [2, 3, 4, 1, 0] rfl) hf
      refine z_jn hf (fun j => ∀ (x76_4 : Int) (h : HF) (H : Heap) (locs : List Loc) (ls : Array Slot), rng x76_4 → Hp g B s h H locs → lv_has ls 6 [(0, .ref (B + u0)), (1, .int (ii u1)), (2, .int (ii u2)), (4, .int (ii x76_4))] → j x76_4 h = some o → W p l e (rmn 1) s m args below meth c H locs 0 0 Q (F0 m 76 ls [])) ?_ (fun j76 hj76 hf => ?_)
      · intro x76_4 h H locs ls rx76_4 hp hl hf
        refine z_iconst cx dX12_fits_76 ?_
        exact hj77 x76_4 0 h _ _ ls rx76_4 (by decide) hp (lv_sub hl [0, 1, 2, 3] rfl) hf
      refine z_if_eq cx rv3 (tgt := 76) dX12_fits_36 (by decide) hf (fun _ hf => ?_) (fun _ hf => ?_)
      · exact hj76 v4 h _ _ ls rv4 hp (lv_sub hl [1, 2, 3, 5] rfl) hf
      · refine lv_iload cx.1 cx.2.1 dX12_fits_39 (lv_at hl 0 rfl) ?_
        refine z_jn hf (fun j => ∀ (x72_4 : Int) (h : HF) (H : Heap) (locs : List Loc) (ls : Array Slot), rng x72_4 → Hp g B s h H locs → lv_has ls 6 [(0, .ref (B + u0)), (1, .int (ii u1)), (2, .int (ii u2)), (4, .int (ii x72_4))] → j x72_4 h = some o → W p l e (rmn 1) s m args below meth c H locs 0 0 Q (F0 m 72 ls [])) ?_ (fun j72 hj72 hf => ?_)
        · intro x72_4 h H locs ls rx72_4 hp hl hf
          refine z_iconst cx dX12_fits_72 ?_
          refine lv_goto (tgt := 77) cx.1 cx.2.1 dX12_fits_73 (by decide) ?_
          exact hj77 x72_4 1 h _ _ ls rx72_4 (by decide) hp (lv_sub hl [0, 1, 2, 3] rfl) hf
        refine z_if_lt cx rx4 (tgt := 72) dX12_fits_41 (by decide) hf (fun _ hf => ?_) (fun _ hf => ?_)
        · exact hj72 v4 h _ _ ls rv4 hp (lv_sub hl [1, 2, 3, 5] rfl) hf
        · refine lv_iload cx.1 cx.2.1 dX12_fits_44 (lv_at hl 0 rfl) ?_
          refine lv_aload_n cx.1 cx.2.1 dX12_fits_46 rfl (lv_at hl 1 rfl) ?_
          refine z_gets cx hp (T := TX12) 12 7 (u0 + 4) rfl zin_12 (by decide) (by decide) ru0 rfl fl_X12_19 dX12_fits_47 ?_
          refine lv_iload_n cx.1 cx.2.1 dX12_fits_50 rfl (lv_at hl 2 rfl) ?_
          refine z_iald cx hp (zs_12_7 u0 (kt_lt ru0 (by decide)) ru0) ru1 dX12_fits_51 hf (fun x6 rx6 hf => ?_)
          refine z_icmp_ge cx rx4 rx6 (tgt := 76) dX12_fits_52 (by decide) hf (fun _ hf => ?_) (fun _ hf => ?_)
          · refine lv_aload_n cx.1 cx.2.1 dX12_fits_55 rfl (lv_at hl 1 rfl) ?_
            refine lv_iload_n cx.1 cx.2.1 dX12_fits_56 rfl (lv_at hl 2 rfl) ?_
            refine lv_iload cx.1 cx.2.1 dX12_fits_57 (lv_at hl 0 rfl) ?_
            refine z_ci cx hp (fun o' hx => zrunV (n := 1) (As := [.int (ii u1), .int (ii x4)]) (rest := []) cx hp (mX12_arity F l g B h u0 u1 x4 ru0 ru1 rx4 o' hx) 12 ru0 (by decide) rfl vw_X12_arity ml_X12_129 (by decide) rfl hl.1 rfl (Nat.le_of_ble_eq_true rfl) dX12_fits_59) hf (fun r7 h H locs rr7 hp hf => ?_)
            refine lv_aload_n cx.1 cx.2.1 dX12_fits_62 rfl (lv_at hl 1 rfl) ?_
            refine z_gets cx hp (T := TX12) 12 20 (u0 + 14) rfl zin_12 (by decide) (by decide) ru0 rfl fl_X12_49 dX12_fits_63 ?_
            refine lv_iload cx.1 cx.2.1 dX12_fits_66 (lv_at hl 5 rfl) ?_
            refine z_iald cx hp (zs_12_20 u0 (kt_lt ru0 (by decide)) ru0) rv4 dX12_fits_68 hf (fun x8 rx8 hf => ?_)
            refine z_icmp_ne cx rr7 rx8 (tgt := 76) dX12_fits_69 (by decide) hf (fun _ hf => ?_) (fun _ hf => ?_)
            · exact hj72 v4 h _ _ ls rv4 hp (lv_sub hl [1, 2, 3, 5] rfl) hf
            · exact hj76 v4 h _ _ ls rv4 hp (lv_sub hl [1, 2, 3, 5] rfl) hf
          · exact hj76 v4 h _ _ ls rv4 hp (lv_sub hl [1, 2, 3, 5] rfl) hf
    · exact hk84 v3 h _ _ ls rv3 hp (lv_sub hl [3] rfl) hf
def fX12_fits (F : Nat) (a0 : Nat) (a1 : Int) (a2 : Int) (h : HF) : RO :=
  zlet (wr (80 * a2)) fun x1 =>
  zjn (fun (x84_3 : Int) (h : HF) => (
    zrz x84_3 h
  )) fun j84 =>
  LX12_fits_8 F a0 a1 a2 j84 F 1 x1 h
set_option maxHeartbeats 4000000 in
set_option maxRecDepth 100000 in
theorem mX12_fits (F : Nat) (l : Launch) (g : zG) (B : Nat) (h : HF) (a0 : Nat) (a1 : Int) (a2 : Int) (ra0 : kt a0 = 15) (ra1 : rng a1) (ra2 : rng a2) : CTi l g B yX12_fits cX12_fits 6 (some .boolean) 1 [.ref (B + a0), .int (ii a1), .int (ii a2)] h (fX12_fits F a0 a1 a2 h) := by
  refine z_enterI (by decide) rfl (Nat.le_of_ble_eq_true rfl) ?_
  intro p e s m args below meth c ls o Q cx hp hl hf hQ
  have hl : lv_has ls 6 [(0, .ref (B + a0)), (1, .int (ii a1)), (2, .int (ii a2))] := hl
  unfold fX12_fits at hf
  refine z_iconst cx dX12_fits_0 ?_
  refine lv_istore_n (lv' := [(3, .int (ii 1)), (0, .ref (B + a0)), (1, .int (ii a1)), (2, .int (ii a2))]) cx.1 cx.2.1 dX12_fits_1 rfl hl (by decide) rfl (fun ls hl => ?_)
  refine z_bipush cx (by decide) dX12_fits_2 ?_
  refine lv_iload_n cx.1 cx.2.1 dX12_fits_4 rfl (lv_at hl 3 rfl) ?_
  refine z_imul cx dX12_fits_5 ?_
  refine z_let (rng_wr _) hf (fun x1 rx1 hf => ?_)
  refine lv_istore (lv' := [(4, .int (ii x1)), (3, .int (ii 1)), (0, .ref (B + a0)), (1, .int (ii a1)), (2, .int (ii a2))]) cx.1 cx.2.1 dX12_fits_6 hl (by decide) rfl (fun ls hl => ?_)
  refine z_jn hf (fun j => ∀ (x84_3 : Int) (h : HF) (H : Heap) (locs : List Loc) (ls : Array Slot), rng x84_3 → Hp g B s h H locs → lv_has ls 6 [(3, .int (ii x84_3))] → j x84_3 h = some o → W p l e (rmn 1) s m args below meth c H locs 0 0 Q (F0 m 84 ls [])) ?_ (fun j84 hj84 hf => ?_)
  · intro x84_3 h H locs ls rx84_3 hp hl hf
    refine lv_iload_n cx.1 cx.2.1 dX12_fits_84 rfl (lv_at hl 0 rfl) ?_
    rw [hQ]; exact z_zret cx hp dX12_fits_85 hf
  exact wX12_fits_8 F cx a0 ra0 a1 ra1 a2 ra2 j84 hj84 F 1 x1 h _ _ ls (by decide) rx1 hp (lv_sub hl [2, 3, 4, 1, 0] rfl) hf
theorem dX12_worth_0 : decode cX12_worth 0 = .ok (.bipush 80, 2) := by decide +kernel
theorem dX12_worth_2 : decode cX12_worth 2 = .ok (.iload_n 2, 1) := by decide +kernel
theorem dX12_worth_3 : decode cX12_worth 3 = .ok (.imul, 1) := by decide +kernel
theorem dX12_worth_4 : decode cX12_worth 4 = .ok (.iload_n 3, 1) := by decide +kernel
theorem dX12_worth_5 : decode cX12_worth 5 = .ok (.iadd, 1) := by decide +kernel
theorem dX12_worth_6 : decode cX12_worth 6 = .ok (.istore 4, 2) := by decide +kernel
theorem dX12_worth_8 : decode cX12_worth 8 = .ok (.aload_n 0, 1) := by decide +kernel
theorem dX12_worth_9 : decode cX12_worth 9 = .ok (.getfield 46, 3) := by decide +kernel
theorem dX12_worth_12 : decode cX12_worth 12 = .ok (.iload 4, 2) := by decide +kernel
theorem dX12_worth_14 : decode cX12_worth 14 = .ok (.iaload, 1) := by decide +kernel
theorem dX12_worth_15 : decode cX12_worth 15 = .ok (.istore 5, 2) := by decide +kernel
theorem dX12_worth_17 : decode cX12_worth 17 = .ok (.iload 5, 2) := by decide +kernel
theorem dX12_worth_19 : decode cX12_worth 19 = .ok (.iconst 3, 1) := by decide +kernel
theorem dX12_worth_20 : decode cX12_worth 20 = .ok (.if_icmp .ge 33, 3) := by decide +kernel
theorem dX12_worth_23 : decode cX12_worth 23 = .ok (.iload 5, 2) := by decide +kernel
theorem dX12_worth_25 : decode cX12_worth 25 = .ok (.ifCond .ne 10, 3) := by decide +kernel
theorem dX12_worth_28 : decode cX12_worth 28 = .ok (.aload_n 0, 1) := by decide +kernel
theorem dX12_worth_29 : decode cX12_worth 29 = .ok (.getfield 256, 3) := by decide +kernel
theorem dX12_worth_32 : decode cX12_worth 32 = .ok (.goto 20, 3) := by decide +kernel
theorem dX12_worth_35 : decode cX12_worth 35 = .ok (.iload 5, 2) := by decide +kernel
theorem dX12_worth_37 : decode cX12_worth 37 = .ok (.iconst 1, 1) := by decide +kernel
theorem dX12_worth_38 : decode cX12_worth 38 = .ok (.if_icmp .ne 10, 3) := by decide +kernel
theorem dX12_worth_41 : decode cX12_worth 41 = .ok (.aload_n 0, 1) := by decide +kernel
theorem dX12_worth_42 : decode cX12_worth 42 = .ok (.getfield 259, 3) := by decide +kernel
theorem dX12_worth_45 : decode cX12_worth 45 = .ok (.goto 7, 3) := by decide +kernel
theorem dX12_worth_48 : decode cX12_worth 48 = .ok (.aload_n 0, 1) := by decide +kernel
theorem dX12_worth_49 : decode cX12_worth 49 = .ok (.getfield 262, 3) := by decide +kernel
theorem dX12_worth_52 : decode cX12_worth 52 = .ok (.ireturn, 1) := by decide +kernel
theorem dX12_worth_53 : decode cX12_worth 53 = .ok (.aload_n 0, 1) := by decide +kernel
theorem dX12_worth_54 : decode cX12_worth 54 = .ok (.getfield 49, 3) := by decide +kernel
theorem dX12_worth_57 : decode cX12_worth 57 = .ok (.iload 4, 2) := by decide +kernel
theorem dX12_worth_59 : decode cX12_worth 59 = .ok (.iaload, 1) := by decide +kernel
theorem dX12_worth_60 : decode cX12_worth 60 = .ok (.ifCond .le 19, 3) := by decide +kernel
theorem dX12_worth_63 : decode cX12_worth 63 = .ok (.aload_n 0, 1) := by decide +kernel
theorem dX12_worth_64 : decode cX12_worth 64 = .ok (.iload_n 1, 1) := by decide +kernel
theorem dX12_worth_65 : decode cX12_worth 65 = .ok (.iload_n 2, 1) := by decide +kernel
theorem dX12_worth_66 : decode cX12_worth 66 = .ok (.aload_n 0, 1) := by decide +kernel
theorem dX12_worth_67 : decode cX12_worth 67 = .ok (.getfield 52, 3) := by decide +kernel
theorem dX12_worth_70 : decode cX12_worth 70 = .ok (.iload 4, 2) := by decide +kernel
theorem dX12_worth_72 : decode cX12_worth 72 = .ok (.iaload, 1) := by decide +kernel
theorem dX12_worth_73 : decode cX12_worth 73 = .ok (.invokevirtual 265, 3) := by decide +kernel
theorem dX12_worth_76 : decode cX12_worth 76 = .ok (.goto 4, 3) := by decide +kernel
theorem dX12_worth_79 : decode cX12_worth 79 = .ok (.iconst 0, 1) := by decide +kernel
theorem dX12_worth_80 : decode cX12_worth 80 = .ok (.istore 6, 2) := by decide +kernel
theorem dX12_worth_82 : decode cX12_worth 82 = .ok (.aload_n 0, 1) := by decide +kernel
theorem dX12_worth_83 : decode cX12_worth 83 = .ok (.getfield 49, 3) := by decide +kernel
theorem dX12_worth_86 : decode cX12_worth 86 = .ok (.iload 4, 2) := by decide +kernel
theorem dX12_worth_88 : decode cX12_worth 88 = .ok (.iaload, 1) := by decide +kernel
theorem dX12_worth_89 : decode cX12_worth 89 = .ok (.iconst 1, 1) := by decide +kernel
theorem dX12_worth_90 : decode cX12_worth 90 = .ok (.if_icmp .le 19, 3) := by decide +kernel
theorem dX12_worth_93 : decode cX12_worth 93 = .ok (.aload_n 0, 1) := by decide +kernel
theorem dX12_worth_94 : decode cX12_worth 94 = .ok (.iload_n 1, 1) := by decide +kernel
theorem dX12_worth_95 : decode cX12_worth 95 = .ok (.iload_n 2, 1) := by decide +kernel
theorem dX12_worth_96 : decode cX12_worth 96 = .ok (.aload_n 0, 1) := by decide +kernel
theorem dX12_worth_97 : decode cX12_worth 97 = .ok (.getfield 55, 3) := by decide +kernel
theorem dX12_worth_100 : decode cX12_worth 100 = .ok (.iload 4, 2) := by decide +kernel
theorem dX12_worth_102 : decode cX12_worth 102 = .ok (.iaload, 1) := by decide +kernel
theorem dX12_worth_103 : decode cX12_worth 103 = .ok (.invokevirtual 265, 3) := by decide +kernel
theorem dX12_worth_106 : decode cX12_worth 106 = .ok (.goto 4, 3) := by decide +kernel
theorem dX12_worth_109 : decode cX12_worth 109 = .ok (.iconst 0, 1) := by decide +kernel
theorem dX12_worth_110 : decode cX12_worth 110 = .ok (.istore 7, 2) := by decide +kernel
theorem dX12_worth_112 : decode cX12_worth 112 = .ok (.aload_n 0, 1) := by decide +kernel
theorem dX12_worth_113 : decode cX12_worth 113 = .ok (.iload_n 1, 1) := by decide +kernel
theorem dX12_worth_114 : decode cX12_worth 114 = .ok (.iload 5, 2) := by decide +kernel
theorem dX12_worth_116 : decode cX12_worth 116 = .ok (.iconst 3, 1) := by decide +kernel
theorem dX12_worth_117 : decode cX12_worth 117 = .ok (.isub, 1) := by decide +kernel
theorem dX12_worth_118 : decode cX12_worth 118 = .ok (.iload 6, 2) := by decide +kernel
theorem dX12_worth_120 : decode cX12_worth 120 = .ok (.iload 7, 2) := by decide +kernel
theorem dX12_worth_122 : decode cX12_worth 122 = .ok (.invokevirtual 178, 3) := by decide +kernel
theorem dX12_worth_125 : decode cX12_worth 125 = .ok (.ireturn, 1) := by decide +kernel
def fX12_worth (F : Nat) : Nat → Nat → Int → Int → Int → HF → RO
  | 0, _, _, _, _, _ => none
  | D + 1, a0, a1, a2, a3, h =>
    zlet (wr ((wr (80 * a2)) + a3)) fun x1 =>
    zrd h (a0 + 13) x1 fun x2 =>
    if x2 < 3 then (
      zjn (fun (y52_0 : Int) (h : HF) => (
        some (y52_0, h)
      )) fun j52 =>
      if x2 = 0 then (
        zgf h a0 37 fun x3 =>
        j52 x3 h
      ) else (
        if x2 = 1 then (
          zgf h a0 38 fun x4 =>
          j52 x4 h
        ) else (
          zgf h a0 39 fun x5 =>
          j52 x5 h
        )
      )
    ) else (
      zrd h (a0 + 14) x1 fun x6 =>
      zjn (fun (x80_4 : Int) (x80_5 : Int) (y80_0 : Int) (h : HF) => (
        zrd h (a0 + 14) x80_4 fun x7 =>
        zjn (fun (x110_5 : Int) (x110_6 : Int) (y110_0 : Int) (h : HF) => (
          zbd (fX12_value F a0 a1 (wr (x110_5 - 3)) x110_6 y110_0 h) fun r8 h =>
          some (r8, h)
        )) fun j110 =>
        if 1 < x7 then (
          zrd h (a0 + 16) x80_4 fun x9 =>
          zbd ((fX12_worth F D) a0 a1 a2 x9 h) fun r10 h =>
          j110 x80_5 y80_0 r10 h
        ) else (
          j110 x80_5 y80_0 0 h
        )
      )) fun j80 =>
      if 0 < x6 then (
        zrd h (a0 + 15) x1 fun x11 =>
        zbd ((fX12_worth F D) a0 a1 a2 x11 h) fun r12 h =>
        j80 x1 x2 r12 h
      ) else (
        j80 x1 x2 0 h
      )
    )
set_option maxHeartbeats 4000000 in
set_option maxRecDepth 100000 in
theorem mX12_worth (F : Nat) (l : Launch) (g : zG) (B : Nat) : ∀ (D : Nat) (h : HF) (a0 : Nat) (a1 : Int) (a2 : Int) (a3 : Int) (ra0 : kt a0 = 15) (ra1 : rng a1) (ra2 : rng a2) (ra3 : rng a3), CTi l g B yX12_worth cX12_worth 8 (some .int) (3 + 1 * D) [.ref (B + a0), .int (ii a1), .int (ii a2), .int (ii a3)] h (fX12_worth F D a0 a1 a2 a3 h) := by
  intro D
  induction D with
  | zero =>
    intro h a0 a1 a2 a3 ra0 ra1 ra2 ra3 o hx
    cases hx
  | succ D ihD =>
    intro h a0 a1 a2 a3 ra0 ra1 ra2 ra3
    refine z_enterI (by decide) rfl (Nat.le_of_ble_eq_true rfl) ?_
    intro p e s m args below meth c ls o Q cx hp hl hf hQ
    have hl : lv_has ls 8 [(0, .ref (B + a0)), (1, .int (ii a1)), (2, .int (ii a2)), (3, .int (ii a3))] := hl
    rw [fX12_worth] at hf
    refine z_bipush cx (by decide) dX12_worth_0 ?_
    refine lv_iload_n cx.1 cx.2.1 dX12_worth_2 rfl (lv_at hl 2 rfl) ?_
    refine z_imul cx dX12_worth_3 ?_
    refine lv_iload_n cx.1 cx.2.1 dX12_worth_4 rfl (lv_at hl 3 rfl) ?_
    refine z_iadd cx dX12_worth_5 ?_
    refine z_let (rng_wr _) hf (fun x1 rx1 hf => ?_)
    refine lv_istore (lv' := [(4, .int (ii x1)), (0, .ref (B + a0)), (1, .int (ii a1)), (2, .int (ii a2)), (3, .int (ii a3))]) cx.1 cx.2.1 dX12_worth_6 hl (by decide) rfl (fun ls hl => ?_)
    refine lv_aload_n cx.1 cx.2.1 dX12_worth_8 rfl (lv_at hl 1 rfl) ?_
    refine z_gets cx hp (T := TX12) 12 19 (a0 + 13) rfl zin_12 (by decide) (by decide) ra0 rfl fl_X12_46 dX12_worth_9 ?_
    refine lv_iload cx.1 cx.2.1 dX12_worth_12 (lv_at hl 0 rfl) ?_
    refine z_iald cx hp (zs_12_19 a0 (kt_lt ra0 (by decide)) ra0) rx1 dX12_worth_14 hf (fun x2 rx2 hf => ?_)
    refine lv_istore (lv' := [(5, .int (ii x2)), (4, .int (ii x1)), (0, .ref (B + a0)), (1, .int (ii a1)), (2, .int (ii a2)), (3, .int (ii a3))]) cx.1 cx.2.1 dX12_worth_15 hl (by decide) rfl (fun ls hl => ?_)
    refine lv_iload cx.1 cx.2.1 dX12_worth_17 (lv_at hl 0 rfl) ?_
    refine z_iconst cx dX12_worth_19 ?_
    refine z_icmp_ge cx rx2 (by decide) (tgt := 53) dX12_worth_20 (by decide) hf (fun _ hf => ?_) (fun _ hf => ?_)
    · refine lv_iload cx.1 cx.2.1 dX12_worth_23 (lv_at hl 0 rfl) ?_
      refine z_jn hf (fun j => ∀ (y52_0 : Int) (h : HF) (H : Heap) (locs : List Loc) (ls : Array Slot), rng y52_0 → Hp g B s h H locs → lv_has ls 8 [] → j y52_0 h = some o → W p l e (rmn (3 + 1 * (D + 1))) s m args below meth c H locs 0 0 Q (F0 m 52 ls [.int (ii y52_0)])) ?_ (fun j52 hj52 hf => ?_)
      · intro y52_0 h H locs ls ry52_0 hp hl hf
        rw [hQ]; exact z_iret cx hp ry52_0 dX12_worth_52 hf
      refine z_if_ne cx rx2 (tgt := 35) dX12_worth_25 (by decide) hf (fun _ hf => ?_) (fun _ hf => ?_)
      · refine lv_aload_n cx.1 cx.2.1 dX12_worth_28 rfl (lv_at hl 2 rfl) ?_
        refine z_geti cx hp (T := TX12) 12 37 rfl zin_12 (by decide) (by decide) ra0 rfl fl_X12_256 dX12_worth_29 hf (fun x3 rx3 hf => ?_)
        refine lv_goto (tgt := 52) cx.1 cx.2.1 dX12_worth_32 (by decide) ?_
        exact hj52 x3 h _ _ ls rx3 hp (lv_sub hl [] rfl) hf
      · refine lv_iload cx.1 cx.2.1 dX12_worth_35 (lv_at hl 0 rfl) ?_
        refine z_iconst cx dX12_worth_37 ?_
        refine z_icmp_ne cx rx2 (by decide) (tgt := 48) dX12_worth_38 (by decide) hf (fun _ hf => ?_) (fun _ hf => ?_)
        · refine lv_aload_n cx.1 cx.2.1 dX12_worth_41 rfl (lv_at hl 2 rfl) ?_
          refine z_geti cx hp (T := TX12) 12 38 rfl zin_12 (by decide) (by decide) ra0 rfl fl_X12_259 dX12_worth_42 hf (fun x4 rx4 hf => ?_)
          refine lv_goto (tgt := 52) cx.1 cx.2.1 dX12_worth_45 (by decide) ?_
          exact hj52 x4 h _ _ ls rx4 hp (lv_sub hl [] rfl) hf
        · refine lv_aload_n cx.1 cx.2.1 dX12_worth_48 rfl (lv_at hl 2 rfl) ?_
          refine z_geti cx hp (T := TX12) 12 39 rfl zin_12 (by decide) (by decide) ra0 rfl fl_X12_262 dX12_worth_49 hf (fun x5 rx5 hf => ?_)
          exact hj52 x5 h _ _ ls rx5 hp (lv_sub hl [] rfl) hf
    · refine lv_aload_n cx.1 cx.2.1 dX12_worth_53 rfl (lv_at hl 2 rfl) ?_
      refine z_gets cx hp (T := TX12) 12 20 (a0 + 14) rfl zin_12 (by decide) (by decide) ra0 rfl fl_X12_49 dX12_worth_54 ?_
      refine lv_iload cx.1 cx.2.1 dX12_worth_57 (lv_at hl 1 rfl) ?_
      refine z_iald cx hp (zs_12_20 a0 (kt_lt ra0 (by decide)) ra0) rx1 dX12_worth_59 hf (fun x6 rx6 hf => ?_)
      refine z_jn hf (fun j => ∀ (x80_4 : Int) (x80_5 : Int) (y80_0 : Int) (h : HF) (H : Heap) (locs : List Loc) (ls : Array Slot), rng x80_4 → rng x80_5 → rng y80_0 → Hp g B s h H locs → lv_has ls 8 [(0, .ref (B + a0)), (1, .int (ii a1)), (2, .int (ii a2)), (4, .int (ii x80_4)), (5, .int (ii x80_5))] → j x80_4 x80_5 y80_0 h = some o → W p l e (rmn (3 + 1 * (D + 1))) s m args below meth c H locs 0 0 Q (F0 m 80 ls [.int (ii y80_0)])) ?_ (fun j80 hj80 hf => ?_)
      · intro x80_4 x80_5 y80_0 h H locs ls rx80_4 rx80_5 ry80_0 hp hl hf
        refine lv_istore (lv' := [(6, .int (ii y80_0)), (0, .ref (B + a0)), (1, .int (ii a1)), (2, .int (ii a2)), (4, .int (ii x80_4)), (5, .int (ii x80_5))]) cx.1 cx.2.1 dX12_worth_80 hl (by decide) rfl (fun ls hl => ?_)
        refine lv_aload_n cx.1 cx.2.1 dX12_worth_82 rfl (lv_at hl 1 rfl) ?_
        refine z_gets cx hp (T := TX12) 12 20 (a0 + 14) rfl zin_12 (by decide) (by decide) ra0 rfl fl_X12_49 dX12_worth_83 ?_
        refine lv_iload cx.1 cx.2.1 dX12_worth_86 (lv_at hl 4 rfl) ?_
        refine z_iald cx hp (zs_12_20 a0 (kt_lt ra0 (by decide)) ra0) rx80_4 dX12_worth_88 hf (fun x7 rx7 hf => ?_)
        refine z_iconst cx dX12_worth_89 ?_
        refine z_jn hf (fun j => ∀ (x110_5 : Int) (x110_6 : Int) (y110_0 : Int) (h : HF) (H : Heap) (locs : List Loc) (ls : Array Slot), rng x110_5 → rng x110_6 → rng y110_0 → Hp g B s h H locs → lv_has ls 8 [(0, .ref (B + a0)), (1, .int (ii a1)), (5, .int (ii x110_5)), (6, .int (ii x110_6))] → j x110_5 x110_6 y110_0 h = some o → W p l e (rmn (3 + 1 * (D + 1))) s m args below meth c H locs 0 0 Q (F0 m 110 ls [.int (ii y110_0)])) ?_ (fun j110 hj110 hf => ?_)
        · intro x110_5 x110_6 y110_0 h H locs ls rx110_5 rx110_6 ry110_0 hp hl hf
          refine lv_istore (lv' := [(7, .int (ii y110_0)), (0, .ref (B + a0)), (1, .int (ii a1)), (5, .int (ii x110_5)), (6, .int (ii x110_6))]) cx.1 cx.2.1 dX12_worth_110 hl (by decide) rfl (fun ls hl => ?_)
          refine lv_aload_n cx.1 cx.2.1 dX12_worth_112 rfl (lv_at hl 1 rfl) ?_
          refine lv_iload_n cx.1 cx.2.1 dX12_worth_113 rfl (lv_at hl 2 rfl) ?_
          refine lv_iload cx.1 cx.2.1 dX12_worth_114 (lv_at hl 3 rfl) ?_
          refine z_iconst cx dX12_worth_116 ?_
          refine z_isub cx dX12_worth_117 ?_
          refine lv_iload cx.1 cx.2.1 dX12_worth_118 (lv_at hl 4 rfl) ?_
          refine lv_iload cx.1 cx.2.1 dX12_worth_120 (lv_at hl 0 rfl) ?_
          refine z_ci cx hp (fun o' hx => zrunV (n := (3 + 1 * (D + 1))) (As := [.int (ii a1), .int (ii (wr (x110_5 - 3))), .int (ii x110_6), .int (ii y110_0)]) (rest := []) cx hp (mX12_value F l g B h a0 a1 (wr (x110_5 - 3)) x110_6 y110_0 ra0 ra1 (rng_wr _) rx110_6 ry110_0 o' hx) 12 ra0 (by decide) rfl vw_X12_value ml_X12_178 (by omega) rfl hl.1 rfl (Nat.le_of_ble_eq_true rfl) dX12_worth_122) hf (fun r8 h H locs rr8 hp hf => ?_)
          rw [hQ]; exact z_iret cx hp rr8 dX12_worth_125 hf
        refine z_icmp_le cx rx7 (by decide) (tgt := 109) dX12_worth_90 (by decide) hf (fun _ hf => ?_) (fun _ hf => ?_)
        · refine lv_aload_n cx.1 cx.2.1 dX12_worth_93 rfl (lv_at hl 1 rfl) ?_
          refine lv_iload_n cx.1 cx.2.1 dX12_worth_94 rfl (lv_at hl 2 rfl) ?_
          refine lv_iload_n cx.1 cx.2.1 dX12_worth_95 rfl (lv_at hl 3 rfl) ?_
          refine lv_aload_n cx.1 cx.2.1 dX12_worth_96 rfl (lv_at hl 1 rfl) ?_
          refine z_gets cx hp (T := TX12) 12 22 (a0 + 16) rfl zin_12 (by decide) (by decide) ra0 rfl fl_X12_55 dX12_worth_97 ?_
          refine lv_iload cx.1 cx.2.1 dX12_worth_100 (lv_at hl 4 rfl) ?_
          refine z_iald cx hp (zs_12_22 a0 (kt_lt ra0 (by decide)) ra0) rx80_4 dX12_worth_102 hf (fun x9 rx9 hf => ?_)
          refine z_ci cx hp (fun o' hx => zrunV (n := (3 + 1 * (D + 1))) (As := [.int (ii a1), .int (ii a2), .int (ii x9)]) (rest := []) cx hp (ihD h a0 a1 a2 x9 ra0 ra1 ra2 rx9 o' hx) 12 ra0 (by decide) rfl vw_X12_worth ml_X12_265 (by omega) rfl hl.1 rfl (Nat.le_of_ble_eq_true rfl) dX12_worth_103) hf (fun r10 h H locs rr10 hp hf => ?_)
          refine lv_goto (tgt := 110) cx.1 cx.2.1 dX12_worth_106 (by decide) ?_
          exact hj110 x80_5 y80_0 r10 h _ _ ls rx80_5 ry80_0 rr10 hp (lv_sub hl [1, 2, 5, 0] rfl) hf
        · refine z_iconst cx dX12_worth_109 ?_
          exact hj110 x80_5 y80_0 0 h _ _ ls rx80_5 ry80_0 (by decide) hp (lv_sub hl [1, 2, 5, 0] rfl) hf
      refine z_if_le cx rx6 (tgt := 79) dX12_worth_60 (by decide) hf (fun _ hf => ?_) (fun _ hf => ?_)
      · refine lv_aload_n cx.1 cx.2.1 dX12_worth_63 rfl (lv_at hl 2 rfl) ?_
        refine lv_iload_n cx.1 cx.2.1 dX12_worth_64 rfl (lv_at hl 3 rfl) ?_
        refine lv_iload_n cx.1 cx.2.1 dX12_worth_65 rfl (lv_at hl 4 rfl) ?_
        refine lv_aload_n cx.1 cx.2.1 dX12_worth_66 rfl (lv_at hl 2 rfl) ?_
        refine z_gets cx hp (T := TX12) 12 21 (a0 + 15) rfl zin_12 (by decide) (by decide) ra0 rfl fl_X12_52 dX12_worth_67 ?_
        refine lv_iload cx.1 cx.2.1 dX12_worth_70 (lv_at hl 1 rfl) ?_
        refine z_iald cx hp (zs_12_21 a0 (kt_lt ra0 (by decide)) ra0) rx1 dX12_worth_72 hf (fun x11 rx11 hf => ?_)
        refine z_ci cx hp (fun o' hx => zrunV (n := (3 + 1 * (D + 1))) (As := [.int (ii a1), .int (ii a2), .int (ii x11)]) (rest := []) cx hp (ihD h a0 a1 a2 x11 ra0 ra1 ra2 rx11 o' hx) 12 ra0 (by decide) rfl vw_X12_worth ml_X12_265 (by omega) rfl hl.1 rfl (Nat.le_of_ble_eq_true rfl) dX12_worth_73) hf (fun r12 h H locs rr12 hp hf => ?_)
        refine lv_goto (tgt := 80) cx.1 cx.2.1 dX12_worth_76 (by decide) ?_
        exact hj80 x1 x2 r12 h _ _ ls rx1 rx2 rr12 hp (lv_sub hl [2, 3, 4, 1, 0] rfl) hf
      · refine z_iconst cx dX12_worth_79 ?_
        exact hj80 x1 x2 0 h _ _ ls rx1 rx2 (by decide) hp (lv_sub hl [2, 3, 4, 1, 0] rfl) hf
theorem dX12_isSame_0 : decode cX12_isSame 0 = .ok (.aload_n 0, 1) := by decide +kernel
theorem dX12_isSame_1 : decode cX12_isSame 1 = .ok (.iload_n 1, 1) := by decide +kernel
theorem dX12_isSame_2 : decode cX12_isSame 2 = .ok (.iload_n 2, 1) := by decide +kernel
theorem dX12_isSame_3 : decode cX12_isSame 3 = .ok (.aload_n 0, 1) := by decide +kernel
theorem dX12_isSame_4 : decode cX12_isSame 4 = .ok (.getfield 64, 3) := by decide +kernel
theorem dX12_isSame_7 : decode cX12_isSame 7 = .ok (.bipush 40, 2) := by decide +kernel
theorem dX12_isSame_9 : decode cX12_isSame 9 = .ok (.iload_n 2, 1) := by decide +kernel
theorem dX12_isSame_10 : decode cX12_isSame 10 = .ok (.imul, 1) := by decide +kernel
theorem dX12_isSame_11 : decode cX12_isSame 11 = .ok (.iload_n 3, 1) := by decide +kernel
theorem dX12_isSame_12 : decode cX12_isSame 12 = .ok (.iadd, 1) := by decide +kernel
theorem dX12_isSame_13 : decode cX12_isSame 13 = .ok (.iaload, 1) := by decide +kernel
theorem dX12_isSame_14 : decode cX12_isSame 14 = .ok (.invokevirtual 265, 3) := by decide +kernel
theorem dX12_isSame_17 : decode cX12_isSame 17 = .ok (.aload_n 0, 1) := by decide +kernel
theorem dX12_isSame_18 : decode cX12_isSame 18 = .ok (.iload_n 1, 1) := by decide +kernel
theorem dX12_isSame_19 : decode cX12_isSame 19 = .ok (.iload_n 2, 1) := by decide +kernel
theorem dX12_isSame_20 : decode cX12_isSame 20 = .ok (.aload_n 0, 1) := by decide +kernel
theorem dX12_isSame_21 : decode cX12_isSame 21 = .ok (.getfield 67, 3) := by decide +kernel
theorem dX12_isSame_24 : decode cX12_isSame 24 = .ok (.bipush 40, 2) := by decide +kernel
theorem dX12_isSame_26 : decode cX12_isSame 26 = .ok (.iload_n 2, 1) := by decide +kernel
theorem dX12_isSame_27 : decode cX12_isSame 27 = .ok (.imul, 1) := by decide +kernel
theorem dX12_isSame_28 : decode cX12_isSame 28 = .ok (.iload_n 3, 1) := by decide +kernel
theorem dX12_isSame_29 : decode cX12_isSame 29 = .ok (.iadd, 1) := by decide +kernel
theorem dX12_isSame_30 : decode cX12_isSame 30 = .ok (.iaload, 1) := by decide +kernel
theorem dX12_isSame_31 : decode cX12_isSame 31 = .ok (.invokevirtual 265, 3) := by decide +kernel
theorem dX12_isSame_34 : decode cX12_isSame 34 = .ok (.if_icmp .ne 7, 3) := by decide +kernel
theorem dX12_isSame_37 : decode cX12_isSame 37 = .ok (.iconst 1, 1) := by decide +kernel
theorem dX12_isSame_38 : decode cX12_isSame 38 = .ok (.goto 4, 3) := by decide +kernel
theorem dX12_isSame_41 : decode cX12_isSame 41 = .ok (.iconst 0, 1) := by decide +kernel
theorem dX12_isSame_42 : decode cX12_isSame 42 = .ok (.ireturn, 1) := by decide +kernel
def fX12_isSame (F : Nat) (a0 : Nat) (a1 : Int) (a2 : Int) (a3 : Int) (h : HF) : RO :=
  zrd h (a0 + 19) (wr ((wr (40 * a2)) + a3)) fun x1 =>
  zbd (fX12_worth F 10 a0 a1 a2 x1 h) fun r2 h =>
  zrd h (a0 + 20) (wr ((wr (40 * a2)) + a3)) fun x3 =>
  zbd (fX12_worth F 10 a0 a1 a2 x3 h) fun r4 h =>
  zjn (fun (y42_0 : Int) (h : HF) => (
    zrz y42_0 h
  )) fun j42 =>
  if r2 = r4 then (
    j42 1 h
  ) else (
    j42 0 h
  )
set_option maxHeartbeats 4000000 in
set_option maxRecDepth 100000 in
theorem mX12_isSame (F : Nat) (l : Launch) (g : zG) (B : Nat) (h : HF) (a0 : Nat) (a1 : Int) (a2 : Int) (a3 : Int) (ra0 : kt a0 = 15) (ra1 : rng a1) (ra2 : rng a2) (ra3 : rng a3) : CTi l g B yX12_isSame cX12_isSame 4 (some .boolean) 14 [.ref (B + a0), .int (ii a1), .int (ii a2), .int (ii a3)] h (fX12_isSame F a0 a1 a2 a3 h) := by
  refine z_enterI (by decide) rfl (Nat.le_of_ble_eq_true rfl) ?_
  intro p e s m args below meth c ls o Q cx hp hl hf hQ
  have hl : lv_has ls 4 [(0, .ref (B + a0)), (1, .int (ii a1)), (2, .int (ii a2)), (3, .int (ii a3))] := hl
  unfold fX12_isSame at hf
  refine lv_aload_n cx.1 cx.2.1 dX12_isSame_0 rfl (lv_at hl 0 rfl) ?_
  refine lv_iload_n cx.1 cx.2.1 dX12_isSame_1 rfl (lv_at hl 1 rfl) ?_
  refine lv_iload_n cx.1 cx.2.1 dX12_isSame_2 rfl (lv_at hl 2 rfl) ?_
  refine lv_aload_n cx.1 cx.2.1 dX12_isSame_3 rfl (lv_at hl 0 rfl) ?_
  refine z_gets cx hp (T := TX12) 12 25 (a0 + 19) rfl zin_12 (by decide) (by decide) ra0 rfl fl_X12_64 dX12_isSame_4 ?_
  refine z_bipush cx (by decide) dX12_isSame_7 ?_
  refine lv_iload_n cx.1 cx.2.1 dX12_isSame_9 rfl (lv_at hl 2 rfl) ?_
  refine z_imul cx dX12_isSame_10 ?_
  refine lv_iload_n cx.1 cx.2.1 dX12_isSame_11 rfl (lv_at hl 3 rfl) ?_
  refine z_iadd cx dX12_isSame_12 ?_
  refine z_iald cx hp (zs_12_25 a0 (kt_lt ra0 (by decide)) ra0) (rng_wr _) dX12_isSame_13 hf (fun x1 rx1 hf => ?_)
  refine z_ci cx hp (fun o' hx => zrunV (n := 14) (As := [.int (ii a1), .int (ii a2), .int (ii x1)]) (rest := []) cx hp (mX12_worth F l g B 10 h a0 a1 a2 x1 ra0 ra1 ra2 rx1 o' hx) 12 ra0 (by decide) rfl vw_X12_worth ml_X12_265 (by decide) rfl hl.1 rfl (Nat.le_of_ble_eq_true rfl) dX12_isSame_14) hf (fun r2 h H locs rr2 hp hf => ?_)
  refine lv_aload_n cx.1 cx.2.1 dX12_isSame_17 rfl (lv_at hl 0 rfl) ?_
  refine lv_iload_n cx.1 cx.2.1 dX12_isSame_18 rfl (lv_at hl 1 rfl) ?_
  refine lv_iload_n cx.1 cx.2.1 dX12_isSame_19 rfl (lv_at hl 2 rfl) ?_
  refine lv_aload_n cx.1 cx.2.1 dX12_isSame_20 rfl (lv_at hl 0 rfl) ?_
  refine z_gets cx hp (T := TX12) 12 26 (a0 + 20) rfl zin_12 (by decide) (by decide) ra0 rfl fl_X12_67 dX12_isSame_21 ?_
  refine z_bipush cx (by decide) dX12_isSame_24 ?_
  refine lv_iload_n cx.1 cx.2.1 dX12_isSame_26 rfl (lv_at hl 2 rfl) ?_
  refine z_imul cx dX12_isSame_27 ?_
  refine lv_iload_n cx.1 cx.2.1 dX12_isSame_28 rfl (lv_at hl 3 rfl) ?_
  refine z_iadd cx dX12_isSame_29 ?_
  refine z_iald cx hp (zs_12_26 a0 (kt_lt ra0 (by decide)) ra0) (rng_wr _) dX12_isSame_30 hf (fun x3 rx3 hf => ?_)
  refine z_ci cx hp (fun o' hx => zrunV (n := 14) (As := [.int (ii a1), .int (ii a2), .int (ii x3)]) (rest := [.int (ii r2)]) cx hp (mX12_worth F l g B 10 h a0 a1 a2 x3 ra0 ra1 ra2 rx3 o' hx) 12 ra0 (by decide) rfl vw_X12_worth ml_X12_265 (by decide) rfl hl.1 rfl (Nat.le_of_ble_eq_true rfl) dX12_isSame_31) hf (fun r4 h H locs rr4 hp hf => ?_)
  refine z_jn hf (fun j => ∀ (y42_0 : Int) (h : HF) (H : Heap) (locs : List Loc) (ls : Array Slot), rng y42_0 → Hp g B s h H locs → lv_has ls 4 [] → j y42_0 h = some o → W p l e (rmn 14) s m args below meth c H locs 0 0 Q (F0 m 42 ls [.int (ii y42_0)])) ?_ (fun j42 hj42 hf => ?_)
  · intro y42_0 h H locs ls ry42_0 hp hl hf
    rw [hQ]; exact z_zret cx hp dX12_isSame_42 hf
  refine z_icmp_ne cx rr2 rr4 (tgt := 41) dX12_isSame_34 (by decide) hf (fun _ hf => ?_) (fun _ hf => ?_)
  · refine z_iconst cx dX12_isSame_37 ?_
    refine lv_goto (tgt := 42) cx.1 cx.2.1 dX12_isSame_38 (by decide) ?_
    exact hj42 1 h _ _ ls (by decide) hp (lv_sub hl [] rfl) hf
  · refine z_iconst cx dX12_isSame_41 ?_
    exact hj42 0 h _ _ ls (by decide) hp (lv_sub hl [] rfl) hf
theorem dX12_keeps_0 : decode cX12_keeps 0 = .ok (.aload_n 0, 1) := by decide +kernel
theorem dX12_keeps_1 : decode cX12_keeps 1 = .ok (.getfield 73, 3) := by decide +kernel
theorem dX12_keeps_4 : decode cX12_keeps 4 = .ok (.bipush 7, 2) := by decide +kernel
theorem dX12_keeps_6 : decode cX12_keeps 6 = .ok (.iload_n 2, 1) := by decide +kernel
theorem dX12_keeps_7 : decode cX12_keeps 7 = .ok (.imul, 1) := by decide +kernel
theorem dX12_keeps_8 : decode cX12_keeps 8 = .ok (.iload_n 3, 1) := by decide +kernel
theorem dX12_keeps_9 : decode cX12_keeps 9 = .ok (.iadd, 1) := by decide +kernel
theorem dX12_keeps_10 : decode cX12_keeps 10 = .ok (.iconst 1, 1) := by decide +kernel
theorem dX12_keeps_11 : decode cX12_keeps 11 = .ok (.iadd, 1) := by decide +kernel
theorem dX12_keeps_12 : decode cX12_keeps 12 = .ok (.iaload, 1) := by decide +kernel
theorem dX12_keeps_13 : decode cX12_keeps 13 = .ok (.iconst 1, 1) := by decide +kernel
theorem dX12_keeps_14 : decode cX12_keeps 14 = .ok (.isub, 1) := by decide +kernel
theorem dX12_keeps_15 : decode cX12_keeps 15 = .ok (.istore 4, 2) := by decide +kernel
theorem dX12_keeps_17 : decode cX12_keeps 17 = .ok (.aload_n 0, 1) := by decide +kernel
theorem dX12_keeps_18 : decode cX12_keeps 18 = .ok (.iload_n 1, 1) := by decide +kernel
theorem dX12_keeps_19 : decode cX12_keeps 19 = .ok (.iload_n 2, 1) := by decide +kernel
theorem dX12_keeps_20 : decode cX12_keeps 20 = .ok (.iload 4, 2) := by decide +kernel
theorem dX12_keeps_22 : decode cX12_keeps 22 = .ok (.invokevirtual 269, 3) := by decide +kernel
theorem dX12_keeps_25 : decode cX12_keeps 25 = .ok (.ifCond .eq 5, 3) := by decide +kernel
theorem dX12_keeps_28 : decode cX12_keeps 28 = .ok (.iconst 1, 1) := by decide +kernel
theorem dX12_keeps_29 : decode cX12_keeps 29 = .ok (.ireturn, 1) := by decide +kernel
theorem dX12_keeps_30 : decode cX12_keeps 30 = .ok (.aload_n 0, 1) := by decide +kernel
theorem dX12_keeps_31 : decode cX12_keeps 31 = .ok (.getfield 73, 3) := by decide +kernel
theorem dX12_keeps_34 : decode cX12_keeps 34 = .ok (.bipush 7, 2) := by decide +kernel
theorem dX12_keeps_36 : decode cX12_keeps 36 = .ok (.iload_n 2, 1) := by decide +kernel
theorem dX12_keeps_37 : decode cX12_keeps 37 = .ok (.imul, 1) := by decide +kernel
theorem dX12_keeps_38 : decode cX12_keeps 38 = .ok (.iload_n 3, 1) := by decide +kernel
theorem dX12_keeps_39 : decode cX12_keeps 39 = .ok (.iadd, 1) := by decide +kernel
theorem dX12_keeps_40 : decode cX12_keeps 40 = .ok (.iaload, 1) := by decide +kernel
theorem dX12_keeps_41 : decode cX12_keeps 41 = .ok (.istore 5, 2) := by decide +kernel
theorem dX12_keeps_43 : decode cX12_keeps 43 = .ok (.iload 5, 2) := by decide +kernel
theorem dX12_keeps_45 : decode cX12_keeps 45 = .ok (.iload 4, 2) := by decide +kernel
theorem dX12_keeps_47 : decode cX12_keeps 47 = .ok (.if_icmp .ge 22, 3) := by decide +kernel
theorem dX12_keeps_50 : decode cX12_keeps 50 = .ok (.aload_n 0, 1) := by decide +kernel
theorem dX12_keeps_51 : decode cX12_keeps 51 = .ok (.iload_n 1, 1) := by decide +kernel
theorem dX12_keeps_52 : decode cX12_keeps 52 = .ok (.iload_n 2, 1) := by decide +kernel
theorem dX12_keeps_53 : decode cX12_keeps 53 = .ok (.iload 5, 2) := by decide +kernel
theorem dX12_keeps_55 : decode cX12_keeps 55 = .ok (.invokevirtual 269, 3) := by decide +kernel
theorem dX12_keeps_58 : decode cX12_keeps 58 = .ok (.ifCond .ne 5, 3) := by decide +kernel
theorem dX12_keeps_61 : decode cX12_keeps 61 = .ok (.iconst 1, 1) := by decide +kernel
theorem dX12_keeps_62 : decode cX12_keeps 62 = .ok (.ireturn, 1) := by decide +kernel
theorem dX12_keeps_63 : decode cX12_keeps 63 = .ok (.iinc 5 1, 3) := by decide +kernel
theorem dX12_keeps_66 : decode cX12_keeps 66 = .ok (.goto (-23), 3) := by decide +kernel
theorem dX12_keeps_69 : decode cX12_keeps 69 = .ok (.iconst 0, 1) := by decide +kernel
theorem dX12_keeps_70 : decode cX12_keeps 70 = .ok (.ireturn, 1) := by decide +kernel
def LX12_keeps_43 (F : Nat) (u0 : Nat) (u1 : Int) (u2 : Int) (u4 : Int) (k69 : HF → RO) (k61 : HF → RO) : Nat → Int → HF → RO
  | 0, _, _ => none
  | n + 1, v5, h =>
    if v5 < u4 then (
      zbd (fX12_isSame F u0 u1 u2 v5 h) fun r5 h =>
      if r5 = 0 then (
        k61  h
      ) else (
        zlet (wr (v5 + 1)) fun x6 =>
        LX12_keeps_43 F u0 u1 u2 u4 k69 k61 n x6 h
      )
    ) else (
      k69  h
    )
set_option maxHeartbeats 4000000 in
set_option maxRecDepth 100000 in
theorem wX12_keeps_43 {p : Program} {l : Launch} {e : Env} {s : State} {m : MethodId} {args : Array Value} {below : List Frame} {meth : Method} {c : Code} {Q : State → Prop} {g : zG} {B : Nat} {o : Int × HF} (F : Nat) (cx : Cx p s m args meth c cX12_keeps 6 RX12 (some .boolean) g B) (u0 : Nat) (ru0 : kt u0 = 15) (u1 : Int) (ru1 : rng u1) (u2 : Int) (ru2 : rng u2) (u4 : Int) (ru4 : rng u4) (k69 : HF → RO) (hk69 : ∀  (h : HF) (H : Heap) (locs : List Loc) (ls : Array Slot), Hp g B s h H locs → lv_has ls 6 [] → k69  h = some o → W p l e (rmn 15) s m args below meth c H locs 0 0 Q (F0 m 69 ls [])) (k61 : HF → RO) (hk61 : ∀  (h : HF) (H : Heap) (locs : List Loc) (ls : Array Slot), Hp g B s h H locs → lv_has ls 6 [] → k61  h = some o → W p l e (rmn 15) s m args below meth c H locs 0 0 Q (F0 m 61 ls [])) : ∀ (n : Nat) (v5 : Int) (h : HF) (H : Heap) (locs : List Loc) (ls : Array Slot), rng v5 → Hp g B s h H locs → lv_has ls 6 [(0, .ref (B + u0)), (1, .int (ii u1)), (2, .int (ii u2)), (4, .int (ii u4)), (5, .int (ii v5))] → LX12_keeps_43 F u0 u1 u2 u4 k69 k61 n v5 h = some o → W p l e (rmn 15) s m args below meth c H locs 0 0 Q (F0 m 43 ls []) := by
  intro n
  induction n with
  | zero =>
    intro v5 h H locs ls rv5 hp hl hf
    cases hf
  | succ n ih =>
    intro v5 h H locs ls rv5 hp hl hf
    rw [LX12_keeps_43] at hf
    refine lv_iload cx.1 cx.2.1 dX12_keeps_43 (lv_at hl 4 rfl) ?_
    refine lv_iload cx.1 cx.2.1 dX12_keeps_45 (lv_at hl 3 rfl) ?_
    refine z_icmp_ge cx rv5 ru4 (tgt := 69) dX12_keeps_47 (by decide) hf (fun _ hf => ?_) (fun _ hf => ?_)
    · refine lv_aload_n cx.1 cx.2.1 dX12_keeps_50 rfl (lv_at hl 0 rfl) ?_
      refine lv_iload_n cx.1 cx.2.1 dX12_keeps_51 rfl (lv_at hl 1 rfl) ?_
      refine lv_iload_n cx.1 cx.2.1 dX12_keeps_52 rfl (lv_at hl 2 rfl) ?_
      refine lv_iload cx.1 cx.2.1 dX12_keeps_53 (lv_at hl 4 rfl) ?_
      refine z_ci cx hp (fun o' hx => zrunV (n := 15) (As := [.int (ii u1), .int (ii u2), .int (ii v5)]) (rest := []) cx hp (mX12_isSame F l g B h u0 u1 u2 v5 ru0 ru1 ru2 rv5 o' hx) 12 ru0 (by decide) rfl vw_X12_isSame ml_X12_269 (by decide) rfl hl.1 rfl (Nat.le_of_ble_eq_true rfl) dX12_keeps_55) hf (fun r5 h H locs rr5 hp hf => ?_)
      refine z_if_ne cx rr5 (tgt := 63) dX12_keeps_58 (by decide) hf (fun _ hf => ?_) (fun _ hf => ?_)
      · exact hk61  h _ _ ls  hp (lv_sub hl [] rfl) hf
      · refine z_iinc cx (fun x6 => [(5, .int (ii x6)), (0, .ref (B + u0)), (1, .int (ii u1)), (2, .int (ii u2)), (4, .int (ii u4))]) dX12_keeps_63 hl (k := 4) rfl (by decide) (fun _ => rfl) hf (fun x6 rx6 hf ls hl => ?_)
        refine lv_goto (tgt := 43) cx.1 cx.2.1 dX12_keeps_66 (by decide) ?_
        exact ih x6 h _ _ ls rx6 hp (lv_sub hl [1, 2, 3, 4, 0] rfl) hf
    · exact hk69  h _ _ ls  hp (lv_sub hl [] rfl) hf
def fX12_keeps (F : Nat) (a0 : Nat) (a1 : Int) (a2 : Int) (a3 : Int) (h : HF) : RO :=
  zrd h (a0 + 22) (wr ((wr ((wr (7 * a2)) + a3)) + 1)) fun x1 =>
  zlet (wr (x1 - 1)) fun x2 =>
  zbd (fX12_isSame F a0 a1 a2 x2 h) fun r3 h =>
  if r3 = 0 then (
    zrd h (a0 + 22) (wr ((wr (7 * a2)) + a3)) fun x4 =>
    zjn (fun  (h : HF) => (
      zrz 0 h
    )) fun j69 =>
    zjn (fun  (h : HF) => (
      zrz 1 h
    )) fun j61 =>
    LX12_keeps_43 F a0 a1 a2 x2 j69 j61 F x4 h
  ) else (
    zrz 1 h
  )
set_option maxHeartbeats 4000000 in
set_option maxRecDepth 100000 in
theorem mX12_keeps (F : Nat) (l : Launch) (g : zG) (B : Nat) (h : HF) (a0 : Nat) (a1 : Int) (a2 : Int) (a3 : Int) (ra0 : kt a0 = 15) (ra1 : rng a1) (ra2 : rng a2) (ra3 : rng a3) : CTi l g B yX12_keeps cX12_keeps 6 (some .boolean) 15 [.ref (B + a0), .int (ii a1), .int (ii a2), .int (ii a3)] h (fX12_keeps F a0 a1 a2 a3 h) := by
  refine z_enterI (by decide) rfl (Nat.le_of_ble_eq_true rfl) ?_
  intro p e s m args below meth c ls o Q cx hp hl hf hQ
  have hl : lv_has ls 6 [(0, .ref (B + a0)), (1, .int (ii a1)), (2, .int (ii a2)), (3, .int (ii a3))] := hl
  unfold fX12_keeps at hf
  refine lv_aload_n cx.1 cx.2.1 dX12_keeps_0 rfl (lv_at hl 0 rfl) ?_
  refine z_gets cx hp (T := TX12) 12 28 (a0 + 22) rfl zin_12 (by decide) (by decide) ra0 rfl fl_X12_73 dX12_keeps_1 ?_
  refine z_bipush cx (by decide) dX12_keeps_4 ?_
  refine lv_iload_n cx.1 cx.2.1 dX12_keeps_6 rfl (lv_at hl 2 rfl) ?_
  refine z_imul cx dX12_keeps_7 ?_
  refine lv_iload_n cx.1 cx.2.1 dX12_keeps_8 rfl (lv_at hl 3 rfl) ?_
  refine z_iadd cx dX12_keeps_9 ?_
  refine z_iconst cx dX12_keeps_10 ?_
  refine z_iadd cx dX12_keeps_11 ?_
  refine z_iald cx hp (zs_12_28 a0 (kt_lt ra0 (by decide)) ra0) (rng_wr _) dX12_keeps_12 hf (fun x1 rx1 hf => ?_)
  refine z_iconst cx dX12_keeps_13 ?_
  refine z_isub cx dX12_keeps_14 ?_
  refine z_let (rng_wr _) hf (fun x2 rx2 hf => ?_)
  refine lv_istore (lv' := [(4, .int (ii x2)), (0, .ref (B + a0)), (1, .int (ii a1)), (2, .int (ii a2)), (3, .int (ii a3))]) cx.1 cx.2.1 dX12_keeps_15 hl (by decide) rfl (fun ls hl => ?_)
  refine lv_aload_n cx.1 cx.2.1 dX12_keeps_17 rfl (lv_at hl 1 rfl) ?_
  refine lv_iload_n cx.1 cx.2.1 dX12_keeps_18 rfl (lv_at hl 2 rfl) ?_
  refine lv_iload_n cx.1 cx.2.1 dX12_keeps_19 rfl (lv_at hl 3 rfl) ?_
  refine lv_iload cx.1 cx.2.1 dX12_keeps_20 (lv_at hl 0 rfl) ?_
  refine z_ci cx hp (fun o' hx => zrunV (n := 15) (As := [.int (ii a1), .int (ii a2), .int (ii x2)]) (rest := []) cx hp (mX12_isSame F l g B h a0 a1 a2 x2 ra0 ra1 ra2 rx2 o' hx) 12 ra0 (by decide) rfl vw_X12_isSame ml_X12_269 (by decide) rfl hl.1 rfl (Nat.le_of_ble_eq_true rfl) dX12_keeps_22) hf (fun r3 h H locs rr3 hp hf => ?_)
  refine z_if_eq cx rr3 (tgt := 30) dX12_keeps_25 (by decide) hf (fun _ hf => ?_) (fun _ hf => ?_)
  · refine lv_aload_n cx.1 cx.2.1 dX12_keeps_30 rfl (lv_at hl 1 rfl) ?_
    refine z_gets cx hp (T := TX12) 12 28 (a0 + 22) rfl zin_12 (by decide) (by decide) ra0 rfl fl_X12_73 dX12_keeps_31 ?_
    refine z_bipush cx (by decide) dX12_keeps_34 ?_
    refine lv_iload_n cx.1 cx.2.1 dX12_keeps_36 rfl (lv_at hl 3 rfl) ?_
    refine z_imul cx dX12_keeps_37 ?_
    refine lv_iload_n cx.1 cx.2.1 dX12_keeps_38 rfl (lv_at hl 4 rfl) ?_
    refine z_iadd cx dX12_keeps_39 ?_
    refine z_iald cx hp (zs_12_28 a0 (kt_lt ra0 (by decide)) ra0) (rng_wr _) dX12_keeps_40 hf (fun x4 rx4 hf => ?_)
    refine lv_istore (lv' := [(5, .int (ii x4)), (4, .int (ii x2)), (0, .ref (B + a0)), (1, .int (ii a1)), (2, .int (ii a2)), (3, .int (ii a3))]) cx.1 cx.2.1 dX12_keeps_41 hl (by decide) rfl (fun ls hl => ?_)
    refine z_jn hf (fun j => ∀  (h : HF) (H : Heap) (locs : List Loc) (ls : Array Slot), Hp g B s h H locs → lv_has ls 6 [] → j  h = some o → W p l e (rmn 15) s m args below meth c H locs 0 0 Q (F0 m 69 ls [])) ?_ (fun j69 hj69 hf => ?_)
    · intro  h H locs ls  hp hl hf
      refine z_iconst cx dX12_keeps_69 ?_
      rw [hQ]; exact z_zret cx hp dX12_keeps_70 hf
    refine z_jn hf (fun j => ∀  (h : HF) (H : Heap) (locs : List Loc) (ls : Array Slot), Hp g B s h H locs → lv_has ls 6 [] → j  h = some o → W p l e (rmn 15) s m args below meth c H locs 0 0 Q (F0 m 61 ls [])) ?_ (fun j61 hj61 hf => ?_)
    · intro  h H locs ls  hp hl hf
      refine z_iconst cx dX12_keeps_61 ?_
      rw [hQ]; exact z_zret cx hp dX12_keeps_62 hf
    exact wX12_keeps_43 F cx a0 ra0 a1 ra1 a2 ra2 x2 rx2 j69 hj69 j61 hj61 F x4 h _ _ ls rx4 hp (lv_sub hl [2, 3, 4, 1, 0] rfl) hf
  · refine z_iconst cx dX12_keeps_28 ?_
    rw [hQ]; exact z_zret cx hp dX12_keeps_29 hf
theorem dX12_given_0 : decode cX12_given 0 = .ok (.aload_n 0, 1) := by decide +kernel
theorem dX12_given_1 : decode cX12_given 1 = .ok (.getfield 76, 3) := by decide +kernel
theorem dX12_given_4 : decode cX12_given 4 = .ok (.bipush 7, 2) := by decide +kernel
theorem dX12_given_6 : decode cX12_given 6 = .ok (.iload_n 2, 1) := by decide +kernel
theorem dX12_given_7 : decode cX12_given 7 = .ok (.imul, 1) := by decide +kernel
theorem dX12_given_8 : decode cX12_given 8 = .ok (.iload_n 3, 1) := by decide +kernel
theorem dX12_given_9 : decode cX12_given 9 = .ok (.iadd, 1) := by decide +kernel
theorem dX12_given_10 : decode cX12_given 10 = .ok (.iaload, 1) := by decide +kernel
theorem dX12_given_11 : decode cX12_given 11 = .ok (.istore 5, 2) := by decide +kernel
theorem dX12_given_13 : decode cX12_given 13 = .ok (.iload 5, 2) := by decide +kernel
theorem dX12_given_15 : decode cX12_given 15 = .ok (.aload_n 0, 1) := by decide +kernel
theorem dX12_given_16 : decode cX12_given 16 = .ok (.getfield 76, 3) := by decide +kernel
theorem dX12_given_19 : decode cX12_given 19 = .ok (.bipush 7, 2) := by decide +kernel
theorem dX12_given_21 : decode cX12_given 21 = .ok (.iload_n 2, 1) := by decide +kernel
theorem dX12_given_22 : decode cX12_given 22 = .ok (.imul, 1) := by decide +kernel
theorem dX12_given_23 : decode cX12_given 23 = .ok (.iload_n 3, 1) := by decide +kernel
theorem dX12_given_24 : decode cX12_given 24 = .ok (.iadd, 1) := by decide +kernel
theorem dX12_given_25 : decode cX12_given 25 = .ok (.iconst 1, 1) := by decide +kernel
theorem dX12_given_26 : decode cX12_given 26 = .ok (.iadd, 1) := by decide +kernel
theorem dX12_given_27 : decode cX12_given 27 = .ok (.iaload, 1) := by decide +kernel
theorem dX12_given_28 : decode cX12_given 28 = .ok (.if_icmp .ge 33, 3) := by decide +kernel
theorem dX12_given_31 : decode cX12_given 31 = .ok (.aload_n 0, 1) := by decide +kernel
theorem dX12_given_32 : decode cX12_given 32 = .ok (.getfield 46, 3) := by decide +kernel
theorem dX12_given_35 : decode cX12_given 35 = .ok (.bipush 80, 2) := by decide +kernel
theorem dX12_given_37 : decode cX12_given 37 = .ok (.iload_n 2, 1) := by decide +kernel
theorem dX12_given_38 : decode cX12_given 38 = .ok (.imul, 1) := by decide +kernel
theorem dX12_given_39 : decode cX12_given 39 = .ok (.iload 5, 2) := by decide +kernel
theorem dX12_given_41 : decode cX12_given 41 = .ok (.iadd, 1) := by decide +kernel
theorem dX12_given_42 : decode cX12_given 42 = .ok (.iaload, 1) := by decide +kernel
theorem dX12_given_43 : decode cX12_given 43 = .ok (.iload 4, 2) := by decide +kernel
theorem dX12_given_45 : decode cX12_given 45 = .ok (.if_icmp .ne 10, 3) := by decide +kernel
theorem dX12_given_48 : decode cX12_given 48 = .ok (.aload_n 0, 1) := by decide +kernel
theorem dX12_given_49 : decode cX12_given 49 = .ok (.getfield 16, 3) := by decide +kernel
theorem dX12_given_52 : decode cX12_given 52 = .ok (.iload_n 1, 1) := by decide +kernel
theorem dX12_given_53 : decode cX12_given 53 = .ok (.iaload, 1) := by decide +kernel
theorem dX12_given_54 : decode cX12_given 54 = .ok (.ireturn, 1) := by decide +kernel
theorem dX12_given_55 : decode cX12_given 55 = .ok (.iinc 5 1, 3) := by decide +kernel
theorem dX12_given_58 : decode cX12_given 58 = .ok (.goto (-45), 3) := by decide +kernel
theorem dX12_given_61 : decode cX12_given 61 = .ok (.iconst 1, 1) := by decide +kernel
theorem dX12_given_62 : decode cX12_given 62 = .ok (.ireturn, 1) := by decide +kernel
def LX12_given_13 (F : Nat) (u0 : Nat) (u1 : Int) (u2 : Int) (u3 : Int) (u4 : Int) (k61 : HF → RO) (k48 : HF → RO) : Nat → Int → HF → RO
  | 0, _, _ => none
  | n + 1, v5, h =>
    zrd h (u0 + 23) (wr ((wr ((wr (7 * u2)) + u3)) + 1)) fun x3 =>
    if v5 < x3 then (
      zrd h (u0 + 13) (wr ((wr (80 * u2)) + v5)) fun x4 =>
      if x4 = u4 then (
        k48  h
      ) else (
        zlet (wr (v5 + 1)) fun x5 =>
        LX12_given_13 F u0 u1 u2 u3 u4 k61 k48 n x5 h
      )
    ) else (
      k61  h
    )
set_option maxHeartbeats 4000000 in
set_option maxRecDepth 100000 in
theorem wX12_given_13 {p : Program} {l : Launch} {e : Env} {s : State} {m : MethodId} {args : Array Value} {below : List Frame} {meth : Method} {c : Code} {Q : State → Prop} {g : zG} {B : Nat} {o : Int × HF} (F : Nat) (cx : Cx p s m args meth c cX12_given 6 RX12 (some .int) g B) (u0 : Nat) (ru0 : kt u0 = 15) (u1 : Int) (ru1 : rng u1) (u2 : Int) (ru2 : rng u2) (u3 : Int) (ru3 : rng u3) (u4 : Int) (ru4 : rng u4) (k61 : HF → RO) (hk61 : ∀  (h : HF) (H : Heap) (locs : List Loc) (ls : Array Slot), Hp g B s h H locs → lv_has ls 6 [] → k61  h = some o → W p l e (rmn 0) s m args below meth c H locs 0 0 Q (F0 m 61 ls [])) (k48 : HF → RO) (hk48 : ∀  (h : HF) (H : Heap) (locs : List Loc) (ls : Array Slot), Hp g B s h H locs → lv_has ls 6 [(0, .ref (B + u0)), (1, .int (ii u1))] → k48  h = some o → W p l e (rmn 0) s m args below meth c H locs 0 0 Q (F0 m 48 ls [])) : ∀ (n : Nat) (v5 : Int) (h : HF) (H : Heap) (locs : List Loc) (ls : Array Slot), rng v5 → Hp g B s h H locs → lv_has ls 6 [(0, .ref (B + u0)), (1, .int (ii u1)), (2, .int (ii u2)), (3, .int (ii u3)), (4, .int (ii u4)), (5, .int (ii v5))] → LX12_given_13 F u0 u1 u2 u3 u4 k61 k48 n v5 h = some o → W p l e (rmn 0) s m args below meth c H locs 0 0 Q (F0 m 13 ls []) := by
  intro n
  induction n with
  | zero =>
    intro v5 h H locs ls rv5 hp hl hf
    cases hf
  | succ n ih =>
    intro v5 h H locs ls rv5 hp hl hf
    rw [LX12_given_13] at hf
    refine lv_iload cx.1 cx.2.1 dX12_given_13 (lv_at hl 5 rfl) ?_
    refine lv_aload_n cx.1 cx.2.1 dX12_given_15 rfl (lv_at hl 0 rfl) ?_
    refine z_gets cx hp (T := TX12) 12 29 (u0 + 23) rfl zin_12 (by decide) (by decide) ru0 rfl fl_X12_76 dX12_given_16 ?_
    refine z_bipush cx (by decide) dX12_given_19 ?_
    refine lv_iload_n cx.1 cx.2.1 dX12_given_21 rfl (lv_at hl 2 rfl) ?_
    refine z_imul cx dX12_given_22 ?_
    refine lv_iload_n cx.1 cx.2.1 dX12_given_23 rfl (lv_at hl 3 rfl) ?_
    refine z_iadd cx dX12_given_24 ?_
    refine z_iconst cx dX12_given_25 ?_
    refine z_iadd cx dX12_given_26 ?_
    refine z_iald cx hp (zs_12_29 u0 (kt_lt ru0 (by decide)) ru0) (rng_wr _) dX12_given_27 hf (fun x3 rx3 hf => ?_)
    refine z_icmp_ge cx rv5 rx3 (tgt := 61) dX12_given_28 (by decide) hf (fun _ hf => ?_) (fun _ hf => ?_)
    · refine lv_aload_n cx.1 cx.2.1 dX12_given_31 rfl (lv_at hl 0 rfl) ?_
      refine z_gets cx hp (T := TX12) 12 19 (u0 + 13) rfl zin_12 (by decide) (by decide) ru0 rfl fl_X12_46 dX12_given_32 ?_
      refine z_bipush cx (by decide) dX12_given_35 ?_
      refine lv_iload_n cx.1 cx.2.1 dX12_given_37 rfl (lv_at hl 2 rfl) ?_
      refine z_imul cx dX12_given_38 ?_
      refine lv_iload cx.1 cx.2.1 dX12_given_39 (lv_at hl 5 rfl) ?_
      refine z_iadd cx dX12_given_41 ?_
      refine z_iald cx hp (zs_12_19 u0 (kt_lt ru0 (by decide)) ru0) (rng_wr _) dX12_given_42 hf (fun x4 rx4 hf => ?_)
      refine lv_iload cx.1 cx.2.1 dX12_given_43 (lv_at hl 4 rfl) ?_
      refine z_icmp_ne cx rx4 ru4 (tgt := 55) dX12_given_45 (by decide) hf (fun _ hf => ?_) (fun _ hf => ?_)
      · exact hk48  h _ _ ls  hp (lv_sub hl [0, 1] rfl) hf
      · refine z_iinc cx (fun x5 => [(5, .int (ii x5)), (0, .ref (B + u0)), (1, .int (ii u1)), (2, .int (ii u2)), (3, .int (ii u3)), (4, .int (ii u4))]) dX12_given_55 hl (k := 5) rfl (by decide) (fun _ => rfl) hf (fun x5 rx5 hf ls hl => ?_)
        refine lv_goto (tgt := 13) cx.1 cx.2.1 dX12_given_58 (by decide) ?_
        exact ih x5 h _ _ ls rx5 hp (lv_sub hl [1, 2, 3, 4, 5, 0] rfl) hf
    · exact hk61  h _ _ ls  hp (lv_sub hl [] rfl) hf
def fX12_given (F : Nat) (a0 : Nat) (a1 : Int) (a2 : Int) (a3 : Int) (a4 : Int) (h : HF) : RO :=
  zrd h (a0 + 23) (wr ((wr (7 * a2)) + a3)) fun x1 =>
  zjn (fun  (h : HF) => (
    some (1, h)
  )) fun j61 =>
  zjn (fun  (h : HF) => (
    zrd h (a0 + 3) a1 fun x2 =>
    some (x2, h)
  )) fun j48 =>
  LX12_given_13 F a0 a1 a2 a3 a4 j61 j48 F x1 h
set_option maxHeartbeats 4000000 in
set_option maxRecDepth 100000 in
theorem mX12_given (F : Nat) (l : Launch) (g : zG) (B : Nat) (h : HF) (a0 : Nat) (a1 : Int) (a2 : Int) (a3 : Int) (a4 : Int) (ra0 : kt a0 = 15) (ra1 : rng a1) (ra2 : rng a2) (ra3 : rng a3) (ra4 : rng a4) : CTi l g B yX12_given cX12_given 6 (some .int) 0 [.ref (B + a0), .int (ii a1), .int (ii a2), .int (ii a3), .int (ii a4)] h (fX12_given F a0 a1 a2 a3 a4 h) := by
  refine z_enterI (by decide) rfl (Nat.le_of_ble_eq_true rfl) ?_
  intro p e s m args below meth c ls o Q cx hp hl hf hQ
  have hl : lv_has ls 6 [(0, .ref (B + a0)), (1, .int (ii a1)), (2, .int (ii a2)), (3, .int (ii a3)), (4, .int (ii a4))] := hl
  unfold fX12_given at hf
  refine lv_aload_n cx.1 cx.2.1 dX12_given_0 rfl (lv_at hl 0 rfl) ?_
  refine z_gets cx hp (T := TX12) 12 29 (a0 + 23) rfl zin_12 (by decide) (by decide) ra0 rfl fl_X12_76 dX12_given_1 ?_
  refine z_bipush cx (by decide) dX12_given_4 ?_
  refine lv_iload_n cx.1 cx.2.1 dX12_given_6 rfl (lv_at hl 2 rfl) ?_
  refine z_imul cx dX12_given_7 ?_
  refine lv_iload_n cx.1 cx.2.1 dX12_given_8 rfl (lv_at hl 3 rfl) ?_
  refine z_iadd cx dX12_given_9 ?_
  refine z_iald cx hp (zs_12_29 a0 (kt_lt ra0 (by decide)) ra0) (rng_wr _) dX12_given_10 hf (fun x1 rx1 hf => ?_)
  refine lv_istore (lv' := [(5, .int (ii x1)), (0, .ref (B + a0)), (1, .int (ii a1)), (2, .int (ii a2)), (3, .int (ii a3)), (4, .int (ii a4))]) cx.1 cx.2.1 dX12_given_11 hl (by decide) rfl (fun ls hl => ?_)
  refine z_jn hf (fun j => ∀  (h : HF) (H : Heap) (locs : List Loc) (ls : Array Slot), Hp g B s h H locs → lv_has ls 6 [] → j  h = some o → W p l e (rmn 0) s m args below meth c H locs 0 0 Q (F0 m 61 ls [])) ?_ (fun j61 hj61 hf => ?_)
  · intro  h H locs ls  hp hl hf
    refine z_iconst cx dX12_given_61 ?_
    rw [hQ]; exact z_iret cx hp (by decide) dX12_given_62 hf
  refine z_jn hf (fun j => ∀  (h : HF) (H : Heap) (locs : List Loc) (ls : Array Slot), Hp g B s h H locs → lv_has ls 6 [(0, .ref (B + a0)), (1, .int (ii a1))] → j  h = some o → W p l e (rmn 0) s m args below meth c H locs 0 0 Q (F0 m 48 ls [])) ?_ (fun j48 hj48 hf => ?_)
  · intro  h H locs ls  hp hl hf
    refine lv_aload_n cx.1 cx.2.1 dX12_given_48 rfl (lv_at hl 0 rfl) ?_
    refine z_gets cx hp (T := TX12) 12 6 (a0 + 3) rfl zin_12 (by decide) (by decide) ra0 rfl fl_X12_16 dX12_given_49 ?_
    refine lv_iload_n cx.1 cx.2.1 dX12_given_52 rfl (lv_at hl 1 rfl) ?_
    refine z_iald cx hp (zs_12_6 a0 (kt_lt ra0 (by decide)) ra0) ra1 dX12_given_53 hf (fun x2 rx2 hf => ?_)
    rw [hQ]; exact z_iret cx hp rx2 dX12_given_54 hf
  exact wX12_given_13 F cx a0 ra0 a1 ra1 a2 ra2 a3 ra3 a4 ra4 j61 hj61 j48 hj48 F x1 h _ _ ls rx1 hp (lv_sub hl [1, 2, 3, 4, 5, 0] rfl) hf
theorem dX12_failing_0 : decode cX12_failing 0 = .ok (.aload_n 0, 1) := by decide +kernel
theorem dX12_failing_1 : decode cX12_failing 1 = .ok (.iload_n 1, 1) := by decide +kernel
theorem dX12_failing_2 : decode cX12_failing 2 = .ok (.iload_n 2, 1) := by decide +kernel
theorem dX12_failing_3 : decode cX12_failing 3 = .ok (.iload_n 3, 1) := by decide +kernel
theorem dX12_failing_4 : decode cX12_failing 4 = .ok (.iconst 0, 1) := by decide +kernel
theorem dX12_failing_5 : decode cX12_failing 5 = .ok (.invokevirtual 273, 3) := by decide +kernel
theorem dX12_failing_8 : decode cX12_failing 8 = .ok (.istore 5, 2) := by decide +kernel
theorem dX12_failing_10 : decode cX12_failing 10 = .ok (.aload_n 0, 1) := by decide +kernel
theorem dX12_failing_11 : decode cX12_failing 11 = .ok (.iload_n 1, 1) := by decide +kernel
theorem dX12_failing_12 : decode cX12_failing 12 = .ok (.iload_n 2, 1) := by decide +kernel
theorem dX12_failing_13 : decode cX12_failing 13 = .ok (.iload_n 3, 1) := by decide +kernel
theorem dX12_failing_14 : decode cX12_failing 14 = .ok (.iconst 1, 1) := by decide +kernel
theorem dX12_failing_15 : decode cX12_failing 15 = .ok (.invokevirtual 273, 3) := by decide +kernel
theorem dX12_failing_18 : decode cX12_failing 18 = .ok (.istore 6, 2) := by decide +kernel
theorem dX12_failing_20 : decode cX12_failing 20 = .ok (.aload_n 0, 1) := by decide +kernel
theorem dX12_failing_21 : decode cX12_failing 21 = .ok (.iload_n 1, 1) := by decide +kernel
theorem dX12_failing_22 : decode cX12_failing 22 = .ok (.iload_n 2, 1) := by decide +kernel
theorem dX12_failing_23 : decode cX12_failing 23 = .ok (.iload_n 3, 1) := by decide +kernel
theorem dX12_failing_24 : decode cX12_failing 24 = .ok (.iconst 2, 1) := by decide +kernel
theorem dX12_failing_25 : decode cX12_failing 25 = .ok (.invokevirtual 273, 3) := by decide +kernel
theorem dX12_failing_28 : decode cX12_failing 28 = .ok (.istore 7, 2) := by decide +kernel
theorem dX12_failing_30 : decode cX12_failing 30 = .ok (.iconst 0, 1) := by decide +kernel
theorem dX12_failing_31 : decode cX12_failing 31 = .ok (.istore 8, 2) := by decide +kernel
theorem dX12_failing_33 : decode cX12_failing 33 = .ok (.aload_n 0, 1) := by decide +kernel
theorem dX12_failing_34 : decode cX12_failing 34 = .ok (.iconst (-1), 1) := by decide +kernel
theorem dX12_failing_35 : decode cX12_failing 35 = .ok (.putfield 276, 3) := by decide +kernel
theorem dX12_failing_38 : decode cX12_failing 38 = .ok (.aload_n 0, 1) := by decide +kernel
theorem dX12_failing_39 : decode cX12_failing 39 = .ok (.iconst 0, 1) := by decide +kernel
theorem dX12_failing_40 : decode cX12_failing 40 = .ok (.putfield 256, 3) := by decide +kernel
theorem dX12_failing_43 : decode cX12_failing 43 = .ok (.aload_n 0, 1) := by decide +kernel
theorem dX12_failing_44 : decode cX12_failing 44 = .ok (.getfield 256, 3) := by decide +kernel
theorem dX12_failing_47 : decode cX12_failing 47 = .ok (.iload 5, 2) := by decide +kernel
theorem dX12_failing_49 : decode cX12_failing 49 = .ok (.if_icmp .ge 127, 3) := by decide +kernel
theorem dX12_failing_52 : decode cX12_failing 52 = .ok (.aload_n 0, 1) := by decide +kernel
theorem dX12_failing_53 : decode cX12_failing 53 = .ok (.iconst 0, 1) := by decide +kernel
theorem dX12_failing_54 : decode cX12_failing 54 = .ok (.putfield 259, 3) := by decide +kernel
theorem dX12_failing_57 : decode cX12_failing 57 = .ok (.aload_n 0, 1) := by decide +kernel
theorem dX12_failing_58 : decode cX12_failing 58 = .ok (.getfield 259, 3) := by decide +kernel
theorem dX12_failing_61 : decode cX12_failing 61 = .ok (.iload 6, 2) := by decide +kernel
theorem dX12_failing_63 : decode cX12_failing 63 = .ok (.if_icmp .ge 100, 3) := by decide +kernel
theorem dX12_failing_66 : decode cX12_failing 66 = .ok (.aload_n 0, 1) := by decide +kernel
theorem dX12_failing_67 : decode cX12_failing 67 = .ok (.iconst 0, 1) := by decide +kernel
theorem dX12_failing_68 : decode cX12_failing 68 = .ok (.putfield 262, 3) := by decide +kernel
theorem dX12_failing_71 : decode cX12_failing 71 = .ok (.aload_n 0, 1) := by decide +kernel
theorem dX12_failing_72 : decode cX12_failing 72 = .ok (.getfield 262, 3) := by decide +kernel
theorem dX12_failing_75 : decode cX12_failing 75 = .ok (.iload 7, 2) := by decide +kernel
theorem dX12_failing_77 : decode cX12_failing 77 = .ok (.if_icmp .ge 73, 3) := by decide +kernel
theorem dX12_failing_80 : decode cX12_failing 80 = .ok (.aload_n 0, 1) := by decide +kernel
theorem dX12_failing_81 : decode cX12_failing 81 = .ok (.iload_n 1, 1) := by decide +kernel
theorem dX12_failing_82 : decode cX12_failing 82 = .ok (.iload_n 2, 1) := by decide +kernel
theorem dX12_failing_83 : decode cX12_failing 83 = .ok (.iload_n 3, 1) := by decide +kernel
theorem dX12_failing_84 : decode cX12_failing 84 = .ok (.invokevirtual 279, 3) := by decide +kernel
theorem dX12_failing_87 : decode cX12_failing 87 = .ok (.ifCond .ne 50, 3) := by decide +kernel
theorem dX12_failing_90 : decode cX12_failing 90 = .ok (.aload_n 0, 1) := by decide +kernel
theorem dX12_failing_91 : decode cX12_failing 91 = .ok (.iload 8, 2) := by decide +kernel
theorem dX12_failing_93 : decode cX12_failing 93 = .ok (.ifCond .ne 26, 3) := by decide +kernel
theorem dX12_failing_96 : decode cX12_failing 96 = .ok (.bipush 49, 2) := by decide +kernel
theorem dX12_failing_98 : decode cX12_failing 98 = .ok (.aload_n 0, 1) := by decide +kernel
theorem dX12_failing_99 : decode cX12_failing 99 = .ok (.getfield 256, 3) := by decide +kernel
theorem dX12_failing_102 : decode cX12_failing 102 = .ok (.imul, 1) := by decide +kernel
theorem dX12_failing_103 : decode cX12_failing 103 = .ok (.bipush 7, 2) := by decide +kernel
theorem dX12_failing_105 : decode cX12_failing 105 = .ok (.aload_n 0, 1) := by decide +kernel
theorem dX12_failing_106 : decode cX12_failing 106 = .ok (.getfield 259, 3) := by decide +kernel
theorem dX12_failing_109 : decode cX12_failing 109 = .ok (.imul, 1) := by decide +kernel
theorem dX12_failing_110 : decode cX12_failing 110 = .ok (.iadd, 1) := by decide +kernel
theorem dX12_failing_111 : decode cX12_failing 111 = .ok (.aload_n 0, 1) := by decide +kernel
theorem dX12_failing_112 : decode cX12_failing 112 = .ok (.getfield 262, 3) := by decide +kernel
theorem dX12_failing_115 : decode cX12_failing 115 = .ok (.iadd, 1) := by decide +kernel
theorem dX12_failing_116 : decode cX12_failing 116 = .ok (.goto 7, 3) := by decide +kernel
theorem dX12_failing_119 : decode cX12_failing 119 = .ok (.aload_n 0, 1) := by decide +kernel
theorem dX12_failing_120 : decode cX12_failing 120 = .ok (.getfield 276, 3) := by decide +kernel
theorem dX12_failing_123 : decode cX12_failing 123 = .ok (.putfield 276, 3) := by decide +kernel
theorem dX12_failing_126 : decode cX12_failing 126 = .ok (.iinc 8 1, 3) := by decide +kernel
theorem dX12_failing_129 : decode cX12_failing 129 = .ok (.iload 4, 2) := by decide +kernel
theorem dX12_failing_131 : decode cX12_failing 131 = .ok (.ifCond .eq 6, 3) := by decide +kernel
theorem dX12_failing_134 : decode cX12_failing 134 = .ok (.iload 8, 2) := by decide +kernel
theorem dX12_failing_136 : decode cX12_failing 136 = .ok (.ireturn, 1) := by decide +kernel
theorem dX12_failing_137 : decode cX12_failing 137 = .ok (.aload_n 0, 1) := by decide +kernel
theorem dX12_failing_138 : decode cX12_failing 138 = .ok (.dup, 1) := by decide +kernel
theorem dX12_failing_139 : decode cX12_failing 139 = .ok (.getfield 262, 3) := by decide +kernel
theorem dX12_failing_142 : decode cX12_failing 142 = .ok (.iconst 1, 1) := by decide +kernel
theorem dX12_failing_143 : decode cX12_failing 143 = .ok (.iadd, 1) := by decide +kernel
theorem dX12_failing_144 : decode cX12_failing 144 = .ok (.putfield 262, 3) := by decide +kernel
theorem dX12_failing_147 : decode cX12_failing 147 = .ok (.goto (-76), 3) := by decide +kernel
theorem dX12_failing_150 : decode cX12_failing 150 = .ok (.aload_n 0, 1) := by decide +kernel
theorem dX12_failing_151 : decode cX12_failing 151 = .ok (.dup, 1) := by decide +kernel
theorem dX12_failing_152 : decode cX12_failing 152 = .ok (.getfield 259, 3) := by decide +kernel
theorem dX12_failing_155 : decode cX12_failing 155 = .ok (.iconst 1, 1) := by decide +kernel
theorem dX12_failing_156 : decode cX12_failing 156 = .ok (.iadd, 1) := by decide +kernel
theorem dX12_failing_157 : decode cX12_failing 157 = .ok (.putfield 259, 3) := by decide +kernel
theorem dX12_failing_160 : decode cX12_failing 160 = .ok (.goto (-103), 3) := by decide +kernel
theorem dX12_failing_163 : decode cX12_failing 163 = .ok (.aload_n 0, 1) := by decide +kernel
theorem dX12_failing_164 : decode cX12_failing 164 = .ok (.dup, 1) := by decide +kernel
theorem dX12_failing_165 : decode cX12_failing 165 = .ok (.getfield 256, 3) := by decide +kernel
theorem dX12_failing_168 : decode cX12_failing 168 = .ok (.iconst 1, 1) := by decide +kernel
theorem dX12_failing_169 : decode cX12_failing 169 = .ok (.iadd, 1) := by decide +kernel
theorem dX12_failing_170 : decode cX12_failing 170 = .ok (.putfield 256, 3) := by decide +kernel
theorem dX12_failing_173 : decode cX12_failing 173 = .ok (.goto (-130), 3) := by decide +kernel
theorem dX12_failing_176 : decode cX12_failing 176 = .ok (.iload 8, 2) := by decide +kernel
theorem dX12_failing_178 : decode cX12_failing 178 = .ok (.ireturn, 1) := by decide +kernel
def LX12_failing_71 (F : Nat) (u0 : Nat) (u1 : Int) (u2 : Int) (u3 : Int) (u4 : Int) (u5 : Int) (u6 : Int) (u7 : Int) (k150 : Int → HF → RO) (k134 : Int → HF → RO) : Nat → Int → HF → RO
  | 0, _, _ => none
  | n + 1, v8, h =>
    zgf h u0 39 fun x8 =>
    if x8 < u7 then (
      zbd (fX12_keeps F u0 u1 u2 u3 h) fun r9 h =>
      zjn (fun (x137_8 : Int) (h : HF) => (
        zgf h u0 39 fun x10 =>
        zpf h u0 39 (wr (x10 + 1)) fun h =>
        LX12_failing_71 F u0 u1 u2 u3 u4 u5 u6 u7 k150 k134 n x137_8 h
      )) fun j137 =>
      if r9 = 0 then (
        zjn (fun (x123_8 : Int) (y123_0 : Int) (y123_1 : Nat) (h : HF) => (
          zpf h y123_1 40 y123_0 fun h =>
          zlet (wr (x123_8 + 1)) fun x11 =>
          if u4 = 0 then (
            j137 x11 h
          ) else (
            k134 x11 h
          )
        )) fun j123 =>
        if v8 = 0 then (
          zgf h u0 37 fun x12 =>
          zgf h u0 38 fun x13 =>
          zgf h u0 39 fun x14 =>
          j123 v8 (wr ((wr ((wr (49 * x12)) + (wr (7 * x13)))) + x14)) u0 h
        ) else (
          zgf h u0 40 fun x15 =>
          j123 v8 x15 u0 h
        )
      ) else (
        j137 v8 h
      )
    ) else (
      k150 v8 h
    )
set_option maxHeartbeats 4000000 in
set_option maxRecDepth 100000 in
theorem wX12_failing_71 {p : Program} {l : Launch} {e : Env} {s : State} {m : MethodId} {args : Array Value} {below : List Frame} {meth : Method} {c : Code} {Q : State → Prop} {g : zG} {B : Nat} {o : Int × HF} (F : Nat) (cx : Cx p s m args meth c cX12_failing 9 RX12 (some .int) g B) (u0 : Nat) (ru0 : kt u0 = 15) (u1 : Int) (ru1 : rng u1) (u2 : Int) (ru2 : rng u2) (u3 : Int) (ru3 : rng u3) (u4 : Int) (ru4 : rng u4) (u5 : Int) (ru5 : rng u5) (u6 : Int) (ru6 : rng u6) (u7 : Int) (ru7 : rng u7) (k150 : Int → HF → RO) (hk150 : ∀ (x8 : Int) (h : HF) (H : Heap) (locs : List Loc) (ls : Array Slot), rng x8 → Hp g B s h H locs → lv_has ls 9 [(0, .ref (B + u0)), (1, .int (ii u1)), (2, .int (ii u2)), (3, .int (ii u3)), (4, .int (ii u4)), (5, .int (ii u5)), (6, .int (ii u6)), (7, .int (ii u7)), (8, .int (ii x8))] → k150 x8 h = some o → W p l e (rmn 16) s m args below meth c H locs 0 0 Q (F0 m 150 ls [])) (k134 : Int → HF → RO) (hk134 : ∀ (x8 : Int) (h : HF) (H : Heap) (locs : List Loc) (ls : Array Slot), rng x8 → Hp g B s h H locs → lv_has ls 9 [(8, .int (ii x8))] → k134 x8 h = some o → W p l e (rmn 16) s m args below meth c H locs 0 0 Q (F0 m 134 ls [])) : ∀ (n : Nat) (v8 : Int) (h : HF) (H : Heap) (locs : List Loc) (ls : Array Slot), rng v8 → Hp g B s h H locs → lv_has ls 9 [(0, .ref (B + u0)), (1, .int (ii u1)), (2, .int (ii u2)), (3, .int (ii u3)), (4, .int (ii u4)), (5, .int (ii u5)), (6, .int (ii u6)), (7, .int (ii u7)), (8, .int (ii v8))] → LX12_failing_71 F u0 u1 u2 u3 u4 u5 u6 u7 k150 k134 n v8 h = some o → W p l e (rmn 16) s m args below meth c H locs 0 0 Q (F0 m 71 ls []) := by
  intro n
  induction n with
  | zero =>
    intro v8 h H locs ls rv8 hp hl hf
    cases hf
  | succ n ih =>
    intro v8 h H locs ls rv8 hp hl hf
    rw [LX12_failing_71] at hf
    refine lv_aload_n cx.1 cx.2.1 dX12_failing_71 rfl (lv_at hl 0 rfl) ?_
    refine z_geti cx hp (T := TX12) 12 39 rfl zin_12 (by decide) (by decide) ru0 rfl fl_X12_262 dX12_failing_72 hf (fun x8 rx8 hf => ?_)
    refine lv_iload cx.1 cx.2.1 dX12_failing_75 (lv_at hl 7 rfl) ?_
    refine z_icmp_ge cx rx8 ru7 (tgt := 150) dX12_failing_77 (by decide) hf (fun _ hf => ?_) (fun _ hf => ?_)
    · refine lv_aload_n cx.1 cx.2.1 dX12_failing_80 rfl (lv_at hl 0 rfl) ?_
      refine lv_iload_n cx.1 cx.2.1 dX12_failing_81 rfl (lv_at hl 1 rfl) ?_
      refine lv_iload_n cx.1 cx.2.1 dX12_failing_82 rfl (lv_at hl 2 rfl) ?_
      refine lv_iload_n cx.1 cx.2.1 dX12_failing_83 rfl (lv_at hl 3 rfl) ?_
      refine z_ci cx hp (fun o' hx => zrunV (n := 16) (As := [.int (ii u1), .int (ii u2), .int (ii u3)]) (rest := []) cx hp (mX12_keeps F l g B h u0 u1 u2 u3 ru0 ru1 ru2 ru3 o' hx) 12 ru0 (by decide) rfl vw_X12_keeps ml_X12_279 (by decide) rfl hl.1 rfl (Nat.le_of_ble_eq_true rfl) dX12_failing_84) hf (fun r9 h H locs rr9 hp hf => ?_)
      refine z_jn hf (fun j => ∀ (x137_8 : Int) (h : HF) (H : Heap) (locs : List Loc) (ls : Array Slot), rng x137_8 → Hp g B s h H locs → lv_has ls 9 [(0, .ref (B + u0)), (1, .int (ii u1)), (2, .int (ii u2)), (3, .int (ii u3)), (4, .int (ii u4)), (5, .int (ii u5)), (6, .int (ii u6)), (7, .int (ii u7)), (8, .int (ii x137_8))] → j x137_8 h = some o → W p l e (rmn 16) s m args below meth c H locs 0 0 Q (F0 m 137 ls [])) ?_ (fun j137 hj137 hf => ?_)
      · intro x137_8 h H locs ls rx137_8 hp hl hf
        refine lv_aload_n cx.1 cx.2.1 dX12_failing_137 rfl (lv_at hl 0 rfl) ?_
        refine lv_dup cx.1 cx.2.1 dX12_failing_138 rfl ?_
        refine z_geti cx hp (T := TX12) 12 39 rfl zin_12 (by decide) (by decide) ru0 rfl fl_X12_262 dX12_failing_139 hf (fun x10 rx10 hf => ?_)
        refine z_iconst cx dX12_failing_142 ?_
        refine z_iadd cx dX12_failing_143 ?_
        refine z_puti cx hp (T := TX12) tyX12 tyX12_ok nmX12 12 39 (rng_wr _) rfl zin_12 (by decide) (by decide) ru0 rfl rfl rfl fl_X12_262 dX12_failing_144 hf (fun h H locs hp hf => ?_)
        refine lv_goto (tgt := 71) cx.1 cx.2.1 dX12_failing_147 (by decide) ?_
        exact ih x137_8 h _ _ ls rx137_8 hp (lv_sub hl [0, 1, 2, 3, 4, 5, 6, 7, 8] rfl) hf
      refine z_if_ne cx rr9 (tgt := 137) dX12_failing_87 (by decide) hf (fun _ hf => ?_) (fun _ hf => ?_)
      · refine lv_aload_n cx.1 cx.2.1 dX12_failing_90 rfl (lv_at hl 0 rfl) ?_
        refine lv_iload cx.1 cx.2.1 dX12_failing_91 (lv_at hl 8 rfl) ?_
        refine z_jn hf (fun j => ∀ (x123_8 : Int) (y123_0 : Int) (y123_1 : Nat) (h : HF) (H : Heap) (locs : List Loc) (ls : Array Slot), rng x123_8 → rng y123_0 → kt y123_1 = 15 → Hp g B s h H locs → lv_has ls 9 [(0, .ref (B + u0)), (1, .int (ii u1)), (2, .int (ii u2)), (3, .int (ii u3)), (4, .int (ii u4)), (5, .int (ii u5)), (6, .int (ii u6)), (7, .int (ii u7)), (8, .int (ii x123_8))] → j x123_8 y123_0 y123_1 h = some o → W p l e (rmn 16) s m args below meth c H locs 0 0 Q (F0 m 123 ls [.int (ii y123_0), .ref (B + y123_1)])) ?_ (fun j123 hj123 hf => ?_)
        · intro x123_8 y123_0 y123_1 h H locs ls rx123_8 ry123_0 ry123_1 hp hl hf
          refine z_puti cx hp (T := TX12) tyX12 tyX12_ok nmX12 12 40 ry123_0 rfl zin_12 (by decide) (by decide) ry123_1 rfl rfl rfl fl_X12_276 dX12_failing_123 hf (fun h H locs hp hf => ?_)
          refine z_iinc cx (fun x11 => [(8, .int (ii x11)), (0, .ref (B + u0)), (1, .int (ii u1)), (2, .int (ii u2)), (3, .int (ii u3)), (4, .int (ii u4)), (5, .int (ii u5)), (6, .int (ii u6)), (7, .int (ii u7))]) dX12_failing_126 hl (k := 8) rfl (by decide) (fun _ => rfl) hf (fun x11 rx11 hf ls hl => ?_)
          refine lv_iload cx.1 cx.2.1 dX12_failing_129 (lv_at hl 5 rfl) ?_
          refine z_if_eq cx ru4 (tgt := 137) dX12_failing_131 (by decide) hf (fun _ hf => ?_) (fun _ hf => ?_)
          · exact hj137 x11 h _ _ ls rx11 hp (lv_sub hl [1, 2, 3, 4, 5, 6, 7, 8, 0] rfl) hf
          · exact hk134 x11 h _ _ ls rx11 hp (lv_sub hl [0] rfl) hf
        refine z_if_ne cx rv8 (tgt := 119) dX12_failing_93 (by decide) hf (fun _ hf => ?_) (fun _ hf => ?_)
        · refine z_bipush cx (by decide) dX12_failing_96 ?_
          refine lv_aload_n cx.1 cx.2.1 dX12_failing_98 rfl (lv_at hl 0 rfl) ?_
          refine z_geti cx hp (T := TX12) 12 37 rfl zin_12 (by decide) (by decide) ru0 rfl fl_X12_256 dX12_failing_99 hf (fun x12 rx12 hf => ?_)
          refine z_imul cx dX12_failing_102 ?_
          refine z_bipush cx (by decide) dX12_failing_103 ?_
          refine lv_aload_n cx.1 cx.2.1 dX12_failing_105 rfl (lv_at hl 0 rfl) ?_
          refine z_geti cx hp (T := TX12) 12 38 rfl zin_12 (by decide) (by decide) ru0 rfl fl_X12_259 dX12_failing_106 hf (fun x13 rx13 hf => ?_)
          refine z_imul cx dX12_failing_109 ?_
          refine z_iadd cx dX12_failing_110 ?_
          refine lv_aload_n cx.1 cx.2.1 dX12_failing_111 rfl (lv_at hl 0 rfl) ?_
          refine z_geti cx hp (T := TX12) 12 39 rfl zin_12 (by decide) (by decide) ru0 rfl fl_X12_262 dX12_failing_112 hf (fun x14 rx14 hf => ?_)
          refine z_iadd cx dX12_failing_115 ?_
          refine lv_goto (tgt := 123) cx.1 cx.2.1 dX12_failing_116 (by decide) ?_
          exact hj123 v8 (wr ((wr ((wr (49 * x12)) + (wr (7 * x13)))) + x14)) u0 h _ _ ls rv8 (rng_wr _) ru0 hp (lv_sub hl [0, 1, 2, 3, 4, 5, 6, 7, 8] rfl) hf
        · refine lv_aload_n cx.1 cx.2.1 dX12_failing_119 rfl (lv_at hl 0 rfl) ?_
          refine z_geti cx hp (T := TX12) 12 40 rfl zin_12 (by decide) (by decide) ru0 rfl fl_X12_276 dX12_failing_120 hf (fun x15 rx15 hf => ?_)
          exact hj123 v8 x15 u0 h _ _ ls rv8 rx15 ru0 hp (lv_sub hl [0, 1, 2, 3, 4, 5, 6, 7, 8] rfl) hf
      · exact hj137 v8 h _ _ ls rv8 hp (lv_sub hl [0, 1, 2, 3, 4, 5, 6, 7, 8] rfl) hf
    · exact hk150 v8 h _ _ ls rv8 hp (lv_sub hl [0, 1, 2, 3, 4, 5, 6, 7, 8] rfl) hf
def LX12_failing_57 (F : Nat) (u0 : Nat) (u1 : Int) (u2 : Int) (u3 : Int) (u4 : Int) (u5 : Int) (u6 : Int) (u7 : Int) (k163 : Int → HF → RO) (k134 : Int → HF → RO) : Nat → Int → HF → RO
  | 0, _, _ => none
  | n + 1, v8, h =>
    zgf h u0 38 fun x6 =>
    if x6 < u6 then (
      zpf h u0 39 0 fun h =>
      zjn (fun (x150_8 : Int) (h : HF) => (
        zgf h u0 38 fun x7 =>
        zpf h u0 38 (wr (x7 + 1)) fun h =>
        LX12_failing_57 F u0 u1 u2 u3 u4 u5 u6 u7 k163 k134 n x150_8 h
      )) fun j150 =>
      LX12_failing_71 F u0 u1 u2 u3 u4 u5 u6 u7 j150 k134 F v8 h
    ) else (
      k163 v8 h
    )
set_option maxHeartbeats 4000000 in
set_option maxRecDepth 100000 in
theorem wX12_failing_57 {p : Program} {l : Launch} {e : Env} {s : State} {m : MethodId} {args : Array Value} {below : List Frame} {meth : Method} {c : Code} {Q : State → Prop} {g : zG} {B : Nat} {o : Int × HF} (F : Nat) (cx : Cx p s m args meth c cX12_failing 9 RX12 (some .int) g B) (u0 : Nat) (ru0 : kt u0 = 15) (u1 : Int) (ru1 : rng u1) (u2 : Int) (ru2 : rng u2) (u3 : Int) (ru3 : rng u3) (u4 : Int) (ru4 : rng u4) (u5 : Int) (ru5 : rng u5) (u6 : Int) (ru6 : rng u6) (u7 : Int) (ru7 : rng u7) (k163 : Int → HF → RO) (hk163 : ∀ (x8 : Int) (h : HF) (H : Heap) (locs : List Loc) (ls : Array Slot), rng x8 → Hp g B s h H locs → lv_has ls 9 [(0, .ref (B + u0)), (1, .int (ii u1)), (2, .int (ii u2)), (3, .int (ii u3)), (4, .int (ii u4)), (5, .int (ii u5)), (6, .int (ii u6)), (7, .int (ii u7)), (8, .int (ii x8))] → k163 x8 h = some o → W p l e (rmn 16) s m args below meth c H locs 0 0 Q (F0 m 163 ls [])) (k134 : Int → HF → RO) (hk134 : ∀ (x8 : Int) (h : HF) (H : Heap) (locs : List Loc) (ls : Array Slot), rng x8 → Hp g B s h H locs → lv_has ls 9 [(8, .int (ii x8))] → k134 x8 h = some o → W p l e (rmn 16) s m args below meth c H locs 0 0 Q (F0 m 134 ls [])) : ∀ (n : Nat) (v8 : Int) (h : HF) (H : Heap) (locs : List Loc) (ls : Array Slot), rng v8 → Hp g B s h H locs → lv_has ls 9 [(0, .ref (B + u0)), (1, .int (ii u1)), (2, .int (ii u2)), (3, .int (ii u3)), (4, .int (ii u4)), (5, .int (ii u5)), (6, .int (ii u6)), (7, .int (ii u7)), (8, .int (ii v8))] → LX12_failing_57 F u0 u1 u2 u3 u4 u5 u6 u7 k163 k134 n v8 h = some o → W p l e (rmn 16) s m args below meth c H locs 0 0 Q (F0 m 57 ls []) := by
  intro n
  induction n with
  | zero =>
    intro v8 h H locs ls rv8 hp hl hf
    cases hf
  | succ n ih =>
    intro v8 h H locs ls rv8 hp hl hf
    rw [LX12_failing_57] at hf
    refine lv_aload_n cx.1 cx.2.1 dX12_failing_57 rfl (lv_at hl 0 rfl) ?_
    refine z_geti cx hp (T := TX12) 12 38 rfl zin_12 (by decide) (by decide) ru0 rfl fl_X12_259 dX12_failing_58 hf (fun x6 rx6 hf => ?_)
    refine lv_iload cx.1 cx.2.1 dX12_failing_61 (lv_at hl 6 rfl) ?_
    refine z_icmp_ge cx rx6 ru6 (tgt := 163) dX12_failing_63 (by decide) hf (fun _ hf => ?_) (fun _ hf => ?_)
    · refine lv_aload_n cx.1 cx.2.1 dX12_failing_66 rfl (lv_at hl 0 rfl) ?_
      refine z_iconst cx dX12_failing_67 ?_
      refine z_puti cx hp (T := TX12) tyX12 tyX12_ok nmX12 12 39 (by decide) rfl zin_12 (by decide) (by decide) ru0 rfl rfl rfl fl_X12_262 dX12_failing_68 hf (fun h H locs hp hf => ?_)
      refine z_jn hf (fun j => ∀ (x150_8 : Int) (h : HF) (H : Heap) (locs : List Loc) (ls : Array Slot), rng x150_8 → Hp g B s h H locs → lv_has ls 9 [(0, .ref (B + u0)), (1, .int (ii u1)), (2, .int (ii u2)), (3, .int (ii u3)), (4, .int (ii u4)), (5, .int (ii u5)), (6, .int (ii u6)), (7, .int (ii u7)), (8, .int (ii x150_8))] → j x150_8 h = some o → W p l e (rmn 16) s m args below meth c H locs 0 0 Q (F0 m 150 ls [])) ?_ (fun j150 hj150 hf => ?_)
      · intro x150_8 h H locs ls rx150_8 hp hl hf
        refine lv_aload_n cx.1 cx.2.1 dX12_failing_150 rfl (lv_at hl 0 rfl) ?_
        refine lv_dup cx.1 cx.2.1 dX12_failing_151 rfl ?_
        refine z_geti cx hp (T := TX12) 12 38 rfl zin_12 (by decide) (by decide) ru0 rfl fl_X12_259 dX12_failing_152 hf (fun x7 rx7 hf => ?_)
        refine z_iconst cx dX12_failing_155 ?_
        refine z_iadd cx dX12_failing_156 ?_
        refine z_puti cx hp (T := TX12) tyX12 tyX12_ok nmX12 12 38 (rng_wr _) rfl zin_12 (by decide) (by decide) ru0 rfl rfl rfl fl_X12_259 dX12_failing_157 hf (fun h H locs hp hf => ?_)
        refine lv_goto (tgt := 57) cx.1 cx.2.1 dX12_failing_160 (by decide) ?_
        exact ih x150_8 h _ _ ls rx150_8 hp (lv_sub hl [0, 1, 2, 3, 4, 5, 6, 7, 8] rfl) hf
      exact wX12_failing_71 F cx u0 ru0 u1 ru1 u2 ru2 u3 ru3 u4 ru4 u5 ru5 u6 ru6 u7 ru7 j150 hj150 k134 hk134 F v8 h _ _ ls rv8 hp (lv_sub hl [0, 1, 2, 3, 4, 5, 6, 7, 8] rfl) hf
    · exact hk163 v8 h _ _ ls rv8 hp (lv_sub hl [0, 1, 2, 3, 4, 5, 6, 7, 8] rfl) hf
def LX12_failing_43 (F : Nat) (u0 : Nat) (u1 : Int) (u2 : Int) (u3 : Int) (u4 : Int) (u5 : Int) (u6 : Int) (u7 : Int) (k176 : Int → HF → RO) (k134 : Int → HF → RO) : Nat → Int → HF → RO
  | 0, _, _ => none
  | n + 1, v8, h =>
    zgf h u0 37 fun x4 =>
    if x4 < u5 then (
      zpf h u0 38 0 fun h =>
      zjn (fun (x163_8 : Int) (h : HF) => (
        zgf h u0 37 fun x5 =>
        zpf h u0 37 (wr (x5 + 1)) fun h =>
        LX12_failing_43 F u0 u1 u2 u3 u4 u5 u6 u7 k176 k134 n x163_8 h
      )) fun j163 =>
      LX12_failing_57 F u0 u1 u2 u3 u4 u5 u6 u7 j163 k134 F v8 h
    ) else (
      k176 v8 h
    )
set_option maxHeartbeats 4000000 in
set_option maxRecDepth 100000 in
theorem wX12_failing_43 {p : Program} {l : Launch} {e : Env} {s : State} {m : MethodId} {args : Array Value} {below : List Frame} {meth : Method} {c : Code} {Q : State → Prop} {g : zG} {B : Nat} {o : Int × HF} (F : Nat) (cx : Cx p s m args meth c cX12_failing 9 RX12 (some .int) g B) (u0 : Nat) (ru0 : kt u0 = 15) (u1 : Int) (ru1 : rng u1) (u2 : Int) (ru2 : rng u2) (u3 : Int) (ru3 : rng u3) (u4 : Int) (ru4 : rng u4) (u5 : Int) (ru5 : rng u5) (u6 : Int) (ru6 : rng u6) (u7 : Int) (ru7 : rng u7) (k176 : Int → HF → RO) (hk176 : ∀ (x8 : Int) (h : HF) (H : Heap) (locs : List Loc) (ls : Array Slot), rng x8 → Hp g B s h H locs → lv_has ls 9 [(8, .int (ii x8))] → k176 x8 h = some o → W p l e (rmn 16) s m args below meth c H locs 0 0 Q (F0 m 176 ls [])) (k134 : Int → HF → RO) (hk134 : ∀ (x8 : Int) (h : HF) (H : Heap) (locs : List Loc) (ls : Array Slot), rng x8 → Hp g B s h H locs → lv_has ls 9 [(8, .int (ii x8))] → k134 x8 h = some o → W p l e (rmn 16) s m args below meth c H locs 0 0 Q (F0 m 134 ls [])) : ∀ (n : Nat) (v8 : Int) (h : HF) (H : Heap) (locs : List Loc) (ls : Array Slot), rng v8 → Hp g B s h H locs → lv_has ls 9 [(0, .ref (B + u0)), (1, .int (ii u1)), (2, .int (ii u2)), (3, .int (ii u3)), (4, .int (ii u4)), (5, .int (ii u5)), (6, .int (ii u6)), (7, .int (ii u7)), (8, .int (ii v8))] → LX12_failing_43 F u0 u1 u2 u3 u4 u5 u6 u7 k176 k134 n v8 h = some o → W p l e (rmn 16) s m args below meth c H locs 0 0 Q (F0 m 43 ls []) := by
  intro n
  induction n with
  | zero =>
    intro v8 h H locs ls rv8 hp hl hf
    cases hf
  | succ n ih =>
    intro v8 h H locs ls rv8 hp hl hf
    rw [LX12_failing_43] at hf
    refine lv_aload_n cx.1 cx.2.1 dX12_failing_43 rfl (lv_at hl 0 rfl) ?_
    refine z_geti cx hp (T := TX12) 12 37 rfl zin_12 (by decide) (by decide) ru0 rfl fl_X12_256 dX12_failing_44 hf (fun x4 rx4 hf => ?_)
    refine lv_iload cx.1 cx.2.1 dX12_failing_47 (lv_at hl 5 rfl) ?_
    refine z_icmp_ge cx rx4 ru5 (tgt := 176) dX12_failing_49 (by decide) hf (fun _ hf => ?_) (fun _ hf => ?_)
    · refine lv_aload_n cx.1 cx.2.1 dX12_failing_52 rfl (lv_at hl 0 rfl) ?_
      refine z_iconst cx dX12_failing_53 ?_
      refine z_puti cx hp (T := TX12) tyX12 tyX12_ok nmX12 12 38 (by decide) rfl zin_12 (by decide) (by decide) ru0 rfl rfl rfl fl_X12_259 dX12_failing_54 hf (fun h H locs hp hf => ?_)
      refine z_jn hf (fun j => ∀ (x163_8 : Int) (h : HF) (H : Heap) (locs : List Loc) (ls : Array Slot), rng x163_8 → Hp g B s h H locs → lv_has ls 9 [(0, .ref (B + u0)), (1, .int (ii u1)), (2, .int (ii u2)), (3, .int (ii u3)), (4, .int (ii u4)), (5, .int (ii u5)), (6, .int (ii u6)), (7, .int (ii u7)), (8, .int (ii x163_8))] → j x163_8 h = some o → W p l e (rmn 16) s m args below meth c H locs 0 0 Q (F0 m 163 ls [])) ?_ (fun j163 hj163 hf => ?_)
      · intro x163_8 h H locs ls rx163_8 hp hl hf
        refine lv_aload_n cx.1 cx.2.1 dX12_failing_163 rfl (lv_at hl 0 rfl) ?_
        refine lv_dup cx.1 cx.2.1 dX12_failing_164 rfl ?_
        refine z_geti cx hp (T := TX12) 12 37 rfl zin_12 (by decide) (by decide) ru0 rfl fl_X12_256 dX12_failing_165 hf (fun x5 rx5 hf => ?_)
        refine z_iconst cx dX12_failing_168 ?_
        refine z_iadd cx dX12_failing_169 ?_
        refine z_puti cx hp (T := TX12) tyX12 tyX12_ok nmX12 12 37 (rng_wr _) rfl zin_12 (by decide) (by decide) ru0 rfl rfl rfl fl_X12_256 dX12_failing_170 hf (fun h H locs hp hf => ?_)
        refine lv_goto (tgt := 43) cx.1 cx.2.1 dX12_failing_173 (by decide) ?_
        exact ih x163_8 h _ _ ls rx163_8 hp (lv_sub hl [0, 1, 2, 3, 4, 5, 6, 7, 8] rfl) hf
      exact wX12_failing_57 F cx u0 ru0 u1 ru1 u2 ru2 u3 ru3 u4 ru4 u5 ru5 u6 ru6 u7 ru7 j163 hj163 k134 hk134 F v8 h _ _ ls rv8 hp (lv_sub hl [0, 1, 2, 3, 4, 5, 6, 7, 8] rfl) hf
    · exact hk176 v8 h _ _ ls rv8 hp (lv_sub hl [8] rfl) hf
def fX12_failing (F : Nat) (a0 : Nat) (a1 : Int) (a2 : Int) (a3 : Int) (a4 : Int) (h : HF) : RO :=
  zbd (fX12_given F a0 a1 a2 a3 0 h) fun r1 h =>
  zbd (fX12_given F a0 a1 a2 a3 1 h) fun r2 h =>
  zbd (fX12_given F a0 a1 a2 a3 2 h) fun r3 h =>
  zpf h a0 40 (-1) fun h =>
  zpf h a0 37 0 fun h =>
  zjn (fun (x176_8 : Int) (h : HF) => (
    some (x176_8, h)
  )) fun j176 =>
  zjn (fun (x134_8 : Int) (h : HF) => (
    some (x134_8, h)
  )) fun j134 =>
  LX12_failing_43 F a0 a1 a2 a3 a4 r1 r2 r3 j176 j134 F 0 h
set_option maxHeartbeats 4000000 in
set_option maxRecDepth 100000 in
theorem mX12_failing (F : Nat) (l : Launch) (g : zG) (B : Nat) (h : HF) (a0 : Nat) (a1 : Int) (a2 : Int) (a3 : Int) (a4 : Int) (ra0 : kt a0 = 15) (ra1 : rng a1) (ra2 : rng a2) (ra3 : rng a3) (ra4 : rng a4) : CTi l g B yX12_failing cX12_failing 9 (some .int) 16 [.ref (B + a0), .int (ii a1), .int (ii a2), .int (ii a3), .int (ii a4)] h (fX12_failing F a0 a1 a2 a3 a4 h) := by
  refine z_enterI (by decide) rfl (Nat.le_of_ble_eq_true rfl) ?_
  intro p e s m args below meth c ls o Q cx hp hl hf hQ
  have hl : lv_has ls 9 [(0, .ref (B + a0)), (1, .int (ii a1)), (2, .int (ii a2)), (3, .int (ii a3)), (4, .int (ii a4))] := hl
  unfold fX12_failing at hf
  refine lv_aload_n cx.1 cx.2.1 dX12_failing_0 rfl (lv_at hl 0 rfl) ?_
  refine lv_iload_n cx.1 cx.2.1 dX12_failing_1 rfl (lv_at hl 1 rfl) ?_
  refine lv_iload_n cx.1 cx.2.1 dX12_failing_2 rfl (lv_at hl 2 rfl) ?_
  refine lv_iload_n cx.1 cx.2.1 dX12_failing_3 rfl (lv_at hl 3 rfl) ?_
  refine z_iconst cx dX12_failing_4 ?_
  refine z_ci cx hp (fun o' hx => zrunV (n := 16) (As := [.int (ii a1), .int (ii a2), .int (ii a3), .int (ii 0)]) (rest := []) cx hp (mX12_given F l g B h a0 a1 a2 a3 0 ra0 ra1 ra2 ra3 (by decide) o' hx) 12 ra0 (by decide) rfl vw_X12_given ml_X12_273 (by decide) rfl hl.1 rfl (Nat.le_of_ble_eq_true rfl) dX12_failing_5) hf (fun r1 h H locs rr1 hp hf => ?_)
  refine lv_istore (lv' := [(5, .int (ii r1)), (0, .ref (B + a0)), (1, .int (ii a1)), (2, .int (ii a2)), (3, .int (ii a3)), (4, .int (ii a4))]) cx.1 cx.2.1 dX12_failing_8 hl (by decide) rfl (fun ls hl => ?_)
  refine lv_aload_n cx.1 cx.2.1 dX12_failing_10 rfl (lv_at hl 1 rfl) ?_
  refine lv_iload_n cx.1 cx.2.1 dX12_failing_11 rfl (lv_at hl 2 rfl) ?_
  refine lv_iload_n cx.1 cx.2.1 dX12_failing_12 rfl (lv_at hl 3 rfl) ?_
  refine lv_iload_n cx.1 cx.2.1 dX12_failing_13 rfl (lv_at hl 4 rfl) ?_
  refine z_iconst cx dX12_failing_14 ?_
  refine z_ci cx hp (fun o' hx => zrunV (n := 16) (As := [.int (ii a1), .int (ii a2), .int (ii a3), .int (ii 1)]) (rest := []) cx hp (mX12_given F l g B h a0 a1 a2 a3 1 ra0 ra1 ra2 ra3 (by decide) o' hx) 12 ra0 (by decide) rfl vw_X12_given ml_X12_273 (by decide) rfl hl.1 rfl (Nat.le_of_ble_eq_true rfl) dX12_failing_15) hf (fun r2 h H locs rr2 hp hf => ?_)
  refine lv_istore (lv' := [(6, .int (ii r2)), (5, .int (ii r1)), (0, .ref (B + a0)), (1, .int (ii a1)), (2, .int (ii a2)), (3, .int (ii a3)), (4, .int (ii a4))]) cx.1 cx.2.1 dX12_failing_18 hl (by decide) rfl (fun ls hl => ?_)
  refine lv_aload_n cx.1 cx.2.1 dX12_failing_20 rfl (lv_at hl 2 rfl) ?_
  refine lv_iload_n cx.1 cx.2.1 dX12_failing_21 rfl (lv_at hl 3 rfl) ?_
  refine lv_iload_n cx.1 cx.2.1 dX12_failing_22 rfl (lv_at hl 4 rfl) ?_
  refine lv_iload_n cx.1 cx.2.1 dX12_failing_23 rfl (lv_at hl 5 rfl) ?_
  refine z_iconst cx dX12_failing_24 ?_
  refine z_ci cx hp (fun o' hx => zrunV (n := 16) (As := [.int (ii a1), .int (ii a2), .int (ii a3), .int (ii 2)]) (rest := []) cx hp (mX12_given F l g B h a0 a1 a2 a3 2 ra0 ra1 ra2 ra3 (by decide) o' hx) 12 ra0 (by decide) rfl vw_X12_given ml_X12_273 (by decide) rfl hl.1 rfl (Nat.le_of_ble_eq_true rfl) dX12_failing_25) hf (fun r3 h H locs rr3 hp hf => ?_)
  refine lv_istore (lv' := [(7, .int (ii r3)), (6, .int (ii r2)), (5, .int (ii r1)), (0, .ref (B + a0)), (1, .int (ii a1)), (2, .int (ii a2)), (3, .int (ii a3)), (4, .int (ii a4))]) cx.1 cx.2.1 dX12_failing_28 hl (by decide) rfl (fun ls hl => ?_)
  refine z_iconst cx dX12_failing_30 ?_
  refine lv_istore (lv' := [(8, .int (ii 0)), (7, .int (ii r3)), (6, .int (ii r2)), (5, .int (ii r1)), (0, .ref (B + a0)), (1, .int (ii a1)), (2, .int (ii a2)), (3, .int (ii a3)), (4, .int (ii a4))]) cx.1 cx.2.1 dX12_failing_31 hl (by decide) rfl (fun ls hl => ?_)
  refine lv_aload_n cx.1 cx.2.1 dX12_failing_33 rfl (lv_at hl 4 rfl) ?_
  refine z_iconst cx dX12_failing_34 ?_
  refine z_puti cx hp (T := TX12) tyX12 tyX12_ok nmX12 12 40 (by decide) rfl zin_12 (by decide) (by decide) ra0 rfl rfl rfl fl_X12_276 dX12_failing_35 hf (fun h H locs hp hf => ?_)
  refine lv_aload_n cx.1 cx.2.1 dX12_failing_38 rfl (lv_at hl 4 rfl) ?_
  refine z_iconst cx dX12_failing_39 ?_
  refine z_puti cx hp (T := TX12) tyX12 tyX12_ok nmX12 12 37 (by decide) rfl zin_12 (by decide) (by decide) ra0 rfl rfl rfl fl_X12_256 dX12_failing_40 hf (fun h H locs hp hf => ?_)
  refine z_jn hf (fun j => ∀ (x176_8 : Int) (h : HF) (H : Heap) (locs : List Loc) (ls : Array Slot), rng x176_8 → Hp g B s h H locs → lv_has ls 9 [(8, .int (ii x176_8))] → j x176_8 h = some o → W p l e (rmn 16) s m args below meth c H locs 0 0 Q (F0 m 176 ls [])) ?_ (fun j176 hj176 hf => ?_)
  · intro x176_8 h H locs ls rx176_8 hp hl hf
    refine lv_iload cx.1 cx.2.1 dX12_failing_176 (lv_at hl 0 rfl) ?_
    rw [hQ]; exact z_iret cx hp rx176_8 dX12_failing_178 hf
  refine z_jn hf (fun j => ∀ (x134_8 : Int) (h : HF) (H : Heap) (locs : List Loc) (ls : Array Slot), rng x134_8 → Hp g B s h H locs → lv_has ls 9 [(8, .int (ii x134_8))] → j x134_8 h = some o → W p l e (rmn 16) s m args below meth c H locs 0 0 Q (F0 m 134 ls [])) ?_ (fun j134 hj134 hf => ?_)
  · intro x134_8 h H locs ls rx134_8 hp hl hf
    refine lv_iload cx.1 cx.2.1 dX12_failing_134 (lv_at hl 0 rfl) ?_
    rw [hQ]; exact z_iret cx hp rx134_8 dX12_failing_136 hf
  exact wX12_failing_43 F cx a0 ra0 a1 ra1 a2 ra2 a3 ra3 a4 ra4 r1 rr1 r2 rr2 r3 rr3 j176 hj176 j134 hj134 F 0 h _ _ ls (by decide) hp (lv_sub hl [4, 5, 6, 7, 8, 3, 2, 1, 0] rfl) hf
theorem dX12_broken_0 : decode cX12_broken 0 = .ok (.iconst 0, 1) := by decide +kernel
theorem dX12_broken_1 : decode cX12_broken 1 = .ok (.istore_n 3, 1) := by decide +kernel
theorem dX12_broken_2 : decode cX12_broken 2 = .ok (.iload_n 3, 1) := by decide +kernel
theorem dX12_broken_3 : decode cX12_broken 3 = .ok (.aload_n 0, 1) := by decide +kernel
theorem dX12_broken_4 : decode cX12_broken 4 = .ok (.getfield 79, 3) := by decide +kernel
theorem dX12_broken_7 : decode cX12_broken 7 = .ok (.iload_n 2, 1) := by decide +kernel
theorem dX12_broken_8 : decode cX12_broken 8 = .ok (.iaload, 1) := by decide +kernel
theorem dX12_broken_9 : decode cX12_broken 9 = .ok (.if_icmp .ge 22, 3) := by decide +kernel
theorem dX12_broken_12 : decode cX12_broken 12 = .ok (.aload_n 0, 1) := by decide +kernel
theorem dX12_broken_13 : decode cX12_broken 13 = .ok (.iload_n 1, 1) := by decide +kernel
theorem dX12_broken_14 : decode cX12_broken 14 = .ok (.iload_n 2, 1) := by decide +kernel
theorem dX12_broken_15 : decode cX12_broken 15 = .ok (.iload_n 3, 1) := by decide +kernel
theorem dX12_broken_16 : decode cX12_broken 16 = .ok (.iconst 1, 1) := by decide +kernel
theorem dX12_broken_17 : decode cX12_broken 17 = .ok (.invokevirtual 282, 3) := by decide +kernel
theorem dX12_broken_20 : decode cX12_broken 20 = .ok (.ifCond .le 5, 3) := by decide +kernel
theorem dX12_broken_23 : decode cX12_broken 23 = .ok (.iload_n 3, 1) := by decide +kernel
theorem dX12_broken_24 : decode cX12_broken 24 = .ok (.ireturn, 1) := by decide +kernel
theorem dX12_broken_25 : decode cX12_broken 25 = .ok (.iinc 3 1, 3) := by decide +kernel
theorem dX12_broken_28 : decode cX12_broken 28 = .ok (.goto (-26), 3) := by decide +kernel
theorem dX12_broken_31 : decode cX12_broken 31 = .ok (.iconst (-1), 1) := by decide +kernel
theorem dX12_broken_32 : decode cX12_broken 32 = .ok (.ireturn, 1) := by decide +kernel
def LX12_broken_2 (F : Nat) (u0 : Nat) (u1 : Int) (u2 : Int) (k31 : HF → RO) (k23 : Int → HF → RO) : Nat → Int → HF → RO
  | 0, _, _ => none
  | n + 1, v3, h =>
    zrd h (u0 + 24) u2 fun x1 =>
    if v3 < x1 then (
      zbd (fX12_failing F u0 u1 u2 v3 1 h) fun r2 h =>
      if 0 < r2 then (
        k23 v3 h
      ) else (
        zlet (wr (v3 + 1)) fun x3 =>
        LX12_broken_2 F u0 u1 u2 k31 k23 n x3 h
      )
    ) else (
      k31  h
    )
set_option maxHeartbeats 4000000 in
set_option maxRecDepth 100000 in
theorem wX12_broken_2 {p : Program} {l : Launch} {e : Env} {s : State} {m : MethodId} {args : Array Value} {below : List Frame} {meth : Method} {c : Code} {Q : State → Prop} {g : zG} {B : Nat} {o : Int × HF} (F : Nat) (cx : Cx p s m args meth c cX12_broken 4 RX12 (some .int) g B) (u0 : Nat) (ru0 : kt u0 = 15) (u1 : Int) (ru1 : rng u1) (u2 : Int) (ru2 : rng u2) (k31 : HF → RO) (hk31 : ∀  (h : HF) (H : Heap) (locs : List Loc) (ls : Array Slot), Hp g B s h H locs → lv_has ls 4 [] → k31  h = some o → W p l e (rmn 17) s m args below meth c H locs 0 0 Q (F0 m 31 ls [])) (k23 : Int → HF → RO) (hk23 : ∀ (x3 : Int) (h : HF) (H : Heap) (locs : List Loc) (ls : Array Slot), rng x3 → Hp g B s h H locs → lv_has ls 4 [(3, .int (ii x3))] → k23 x3 h = some o → W p l e (rmn 17) s m args below meth c H locs 0 0 Q (F0 m 23 ls [])) : ∀ (n : Nat) (v3 : Int) (h : HF) (H : Heap) (locs : List Loc) (ls : Array Slot), rng v3 → Hp g B s h H locs → lv_has ls 4 [(0, .ref (B + u0)), (1, .int (ii u1)), (2, .int (ii u2)), (3, .int (ii v3))] → LX12_broken_2 F u0 u1 u2 k31 k23 n v3 h = some o → W p l e (rmn 17) s m args below meth c H locs 0 0 Q (F0 m 2 ls []) := by
  intro n
  induction n with
  | zero =>
    intro v3 h H locs ls rv3 hp hl hf
    cases hf
  | succ n ih =>
    intro v3 h H locs ls rv3 hp hl hf
    rw [LX12_broken_2] at hf
    refine lv_iload_n cx.1 cx.2.1 dX12_broken_2 rfl (lv_at hl 3 rfl) ?_
    refine lv_aload_n cx.1 cx.2.1 dX12_broken_3 rfl (lv_at hl 0 rfl) ?_
    refine z_gets cx hp (T := TX12) 12 30 (u0 + 24) rfl zin_12 (by decide) (by decide) ru0 rfl fl_X12_79 dX12_broken_4 ?_
    refine lv_iload_n cx.1 cx.2.1 dX12_broken_7 rfl (lv_at hl 2 rfl) ?_
    refine z_iald cx hp (zs_12_30 u0 (kt_lt ru0 (by decide)) ru0) ru2 dX12_broken_8 hf (fun x1 rx1 hf => ?_)
    refine z_icmp_ge cx rv3 rx1 (tgt := 31) dX12_broken_9 (by decide) hf (fun _ hf => ?_) (fun _ hf => ?_)
    · refine lv_aload_n cx.1 cx.2.1 dX12_broken_12 rfl (lv_at hl 0 rfl) ?_
      refine lv_iload_n cx.1 cx.2.1 dX12_broken_13 rfl (lv_at hl 1 rfl) ?_
      refine lv_iload_n cx.1 cx.2.1 dX12_broken_14 rfl (lv_at hl 2 rfl) ?_
      refine lv_iload_n cx.1 cx.2.1 dX12_broken_15 rfl (lv_at hl 3 rfl) ?_
      refine z_iconst cx dX12_broken_16 ?_
      refine z_ci cx hp (fun o' hx => zrunV (n := 17) (As := [.int (ii u1), .int (ii u2), .int (ii v3), .int (ii 1)]) (rest := []) cx hp (mX12_failing F l g B h u0 u1 u2 v3 1 ru0 ru1 ru2 rv3 (by decide) o' hx) 12 ru0 (by decide) rfl vw_X12_failing ml_X12_282 (by decide) rfl hl.1 rfl (Nat.le_of_ble_eq_true rfl) dX12_broken_17) hf (fun r2 h H locs rr2 hp hf => ?_)
      refine z_if_le cx rr2 (tgt := 25) dX12_broken_20 (by decide) hf (fun _ hf => ?_) (fun _ hf => ?_)
      · exact hk23 v3 h _ _ ls rv3 hp (lv_sub hl [3] rfl) hf
      · refine z_iinc cx (fun x3 => [(3, .int (ii x3)), (0, .ref (B + u0)), (1, .int (ii u1)), (2, .int (ii u2))]) dX12_broken_25 hl (k := 3) rfl (by decide) (fun _ => rfl) hf (fun x3 rx3 hf ls hl => ?_)
        refine lv_goto (tgt := 2) cx.1 cx.2.1 dX12_broken_28 (by decide) ?_
        exact ih x3 h _ _ ls rx3 hp (lv_sub hl [1, 2, 3, 0] rfl) hf
    · exact hk31  h _ _ ls  hp (lv_sub hl [] rfl) hf
def fX12_broken (F : Nat) (a0 : Nat) (a1 : Int) (a2 : Int) (h : HF) : RO :=
  zjn (fun  (h : HF) => (
    some ((-1), h)
  )) fun j31 =>
  zjn (fun (x23_3 : Int) (h : HF) => (
    some (x23_3, h)
  )) fun j23 =>
  LX12_broken_2 F a0 a1 a2 j31 j23 F 0 h
set_option maxHeartbeats 4000000 in
set_option maxRecDepth 100000 in
theorem mX12_broken (F : Nat) (l : Launch) (g : zG) (B : Nat) (h : HF) (a0 : Nat) (a1 : Int) (a2 : Int) (ra0 : kt a0 = 15) (ra1 : rng a1) (ra2 : rng a2) : CTi l g B yX12_broken cX12_broken 4 (some .int) 17 [.ref (B + a0), .int (ii a1), .int (ii a2)] h (fX12_broken F a0 a1 a2 h) := by
  refine z_enterI (by decide) rfl (Nat.le_of_ble_eq_true rfl) ?_
  intro p e s m args below meth c ls o Q cx hp hl hf hQ
  have hl : lv_has ls 4 [(0, .ref (B + a0)), (1, .int (ii a1)), (2, .int (ii a2))] := hl
  unfold fX12_broken at hf
  refine z_iconst cx dX12_broken_0 ?_
  refine lv_istore_n (lv' := [(3, .int (ii 0)), (0, .ref (B + a0)), (1, .int (ii a1)), (2, .int (ii a2))]) cx.1 cx.2.1 dX12_broken_1 rfl hl (by decide) rfl (fun ls hl => ?_)
  refine z_jn hf (fun j => ∀  (h : HF) (H : Heap) (locs : List Loc) (ls : Array Slot), Hp g B s h H locs → lv_has ls 4 [] → j  h = some o → W p l e (rmn 17) s m args below meth c H locs 0 0 Q (F0 m 31 ls [])) ?_ (fun j31 hj31 hf => ?_)
  · intro  h H locs ls  hp hl hf
    refine z_iconst cx dX12_broken_31 ?_
    rw [hQ]; exact z_iret cx hp (by decide) dX12_broken_32 hf
  refine z_jn hf (fun j => ∀ (x23_3 : Int) (h : HF) (H : Heap) (locs : List Loc) (ls : Array Slot), rng x23_3 → Hp g B s h H locs → lv_has ls 4 [(3, .int (ii x23_3))] → j x23_3 h = some o → W p l e (rmn 17) s m args below meth c H locs 0 0 Q (F0 m 23 ls [])) ?_ (fun j23 hj23 hf => ?_)
  · intro x23_3 h H locs ls rx23_3 hp hl hf
    refine lv_iload_n cx.1 cx.2.1 dX12_broken_23 rfl (lv_at hl 0 rfl) ?_
    rw [hQ]; exact z_iret cx hp rx23_3 dX12_broken_24 hf
  exact wX12_broken_2 F cx a0 ra0 a1 ra1 a2 ra2 j31 hj31 j23 hj23 F 0 h _ _ ls (by decide) hp (lv_sub hl [1, 2, 3, 0] rfl) hf
theorem dX12_refuseLaws_0 : decode cX12_refuseLaws 0 = .ok (.aload_n 0, 1) := by decide +kernel
theorem dX12_refuseLaws_1 : decode cX12_refuseLaws 1 = .ok (.iload_n 1, 1) := by decide +kernel
theorem dX12_refuseLaws_2 : decode cX12_refuseLaws 2 = .ok (.invokevirtual 146, 3) := by decide +kernel
theorem dX12_refuseLaws_5 : decode cX12_refuseLaws 5 = .ok (.ifCond .eq 11, 3) := by decide +kernel
theorem dX12_refuseLaws_8 : decode cX12_refuseLaws 8 = .ok (.aload_n 0, 1) := by decide +kernel
theorem dX12_refuseLaws_9 : decode cX12_refuseLaws 9 = .ok (.iload_n 2, 1) := by decide +kernel
theorem dX12_refuseLaws_10 : decode cX12_refuseLaws 10 = .ok (.invokevirtual 247, 3) := by decide +kernel
theorem dX12_refuseLaws_13 : decode cX12_refuseLaws 13 = .ok (.ifCond .ne 6, 3) := by decide +kernel
theorem dX12_refuseLaws_19 : decode cX12_refuseLaws 19 = .ok (.aload_n 0, 1) := by decide +kernel
theorem dX12_refuseLaws_20 : decode cX12_refuseLaws 20 = .ok (.getfield 16, 3) := by decide +kernel
theorem dX12_refuseLaws_23 : decode cX12_refuseLaws 23 = .ok (.iload_n 1, 1) := by decide +kernel
theorem dX12_refuseLaws_24 : decode cX12_refuseLaws 24 = .ok (.iaload, 1) := by decide +kernel
theorem dX12_refuseLaws_25 : decode cX12_refuseLaws 25 = .ok (.ifCond .eq 12, 3) := by decide +kernel
theorem dX12_refuseLaws_28 : decode cX12_refuseLaws 28 = .ok (.aload_n 0, 1) := by decide +kernel
theorem dX12_refuseLaws_29 : decode cX12_refuseLaws 29 = .ok (.getfield 79, 3) := by decide +kernel
theorem dX12_refuseLaws_32 : decode cX12_refuseLaws 32 = .ok (.iload_n 2, 1) := by decide +kernel
theorem dX12_refuseLaws_33 : decode cX12_refuseLaws 33 = .ok (.iaload, 1) := by decide +kernel
theorem dX12_refuseLaws_34 : decode cX12_refuseLaws 34 = .ok (.ifCond .ne 8, 3) := by decide +kernel
theorem dX12_refuseLaws_42 : decode cX12_refuseLaws 42 = .ok (.aload_n 0, 1) := by decide +kernel
theorem dX12_refuseLaws_43 : decode cX12_refuseLaws 43 = .ok (.iload_n 1, 1) := by decide +kernel
theorem dX12_refuseLaws_44 : decode cX12_refuseLaws 44 = .ok (.iload_n 2, 1) := by decide +kernel
theorem dX12_refuseLaws_45 : decode cX12_refuseLaws 45 = .ok (.invokevirtual 286, 3) := by decide +kernel
theorem dX12_refuseLaws_48 : decode cX12_refuseLaws 48 = .ok (.ifCond .eq 7, 3) := by decide +kernel
theorem dX12_refuseLaws_51 : decode cX12_refuseLaws 51 = .ok (.iconst 0, 1) := by decide +kernel
theorem dX12_refuseLaws_52 : decode cX12_refuseLaws 52 = .ok (.goto 5, 3) := by decide +kernel
theorem dX12_refuseLaws_55 : decode cX12_refuseLaws 55 = .ok (.bipush (-4), 2) := by decide +kernel
theorem dX12_refuseLaws_37 : decode cX12_refuseLaws 37 = .ok (.bipush (-2), 2) := by decide +kernel
theorem dX12_refuseLaws_39 : decode cX12_refuseLaws 39 = .ok (.goto 18, 3) := by decide +kernel
theorem dX12_refuseLaws_57 : decode cX12_refuseLaws 57 = .ok (.ireturn, 1) := by decide +kernel
theorem dX12_refuseLaws_16 : decode cX12_refuseLaws 16 = .ok (.bipush (-3), 2) := by decide +kernel
theorem dX12_refuseLaws_18 : decode cX12_refuseLaws 18 = .ok (.ireturn, 1) := by decide +kernel
def fX12_refuseLaws (F : Nat) (a0 : Nat) (a1 : Int) (a2 : Int) (h : HF) : RO :=
  zbd (fX12_isDrawer F a0 a1 h) fun r1 h =>
  zjn (fun  (h : HF) => (
    some ((-3), h)
  )) fun j16 =>
  if r1 = 0 then (
    j16  h
  ) else (
    zbd (fX12_isList F a0 a2 h) fun r2 h =>
    if r2 = 0 then (
      j16  h
    ) else (
      zrd h (a0 + 3) a1 fun x3 =>
      zjn (fun (y57_0 : Int) (h : HF) => (
        some (y57_0, h)
      )) fun j57 =>
      zjn (fun  (h : HF) => (
        j57 (-2) h
      )) fun j37 =>
      if x3 = 0 then (
        j37  h
      ) else (
        zrd h (a0 + 24) a2 fun x4 =>
        if x4 = 0 then (
          j37  h
        ) else (
          zbd (fX12_fits F a0 a1 a2 h) fun r5 h =>
          if r5 = 0 then (
            j57 (-4) h
          ) else (
            j57 0 h
          )
        )
      )
    )
  )
set_option maxHeartbeats 4000000 in
set_option maxRecDepth 100000 in
theorem mX12_refuseLaws (F : Nat) (l : Launch) (g : zG) (B : Nat) (h : HF) (a0 : Nat) (a1 : Int) (a2 : Int) (ra0 : kt a0 = 15) (ra1 : rng a1) (ra2 : rng a2) : CTi l g B yX12_refuseLaws cX12_refuseLaws 3 (some .int) 2 [.ref (B + a0), .int (ii a1), .int (ii a2)] h (fX12_refuseLaws F a0 a1 a2 h) := by
  refine z_enterI (by decide) rfl (Nat.le_of_ble_eq_true rfl) ?_
  intro p e s m args below meth c ls o Q cx hp hl hf hQ
  have hl : lv_has ls 3 [(0, .ref (B + a0)), (1, .int (ii a1)), (2, .int (ii a2))] := hl
  unfold fX12_refuseLaws at hf
  refine lv_aload_n cx.1 cx.2.1 dX12_refuseLaws_0 rfl (lv_at hl 0 rfl) ?_
  refine lv_iload_n cx.1 cx.2.1 dX12_refuseLaws_1 rfl (lv_at hl 1 rfl) ?_
  refine z_ci cx hp (fun o' hx => zrunV (n := 2) (As := [.int (ii a1)]) (rest := []) cx hp (mX12_isDrawer F l g B h a0 a1 ra0 ra1 o' hx) 12 ra0 (by decide) rfl vw_X12_isDrawer ml_X12_146 (by decide) rfl hl.1 rfl (Nat.le_of_ble_eq_true rfl) dX12_refuseLaws_2) hf (fun r1 h H locs rr1 hp hf => ?_)
  refine z_jn hf (fun j => ∀  (h : HF) (H : Heap) (locs : List Loc) (ls : Array Slot), Hp g B s h H locs → lv_has ls 3 [] → j  h = some o → W p l e (rmn 2) s m args below meth c H locs 0 0 Q (F0 m 16 ls [])) ?_ (fun j16 hj16 hf => ?_)
  · intro  h H locs ls  hp hl hf
    refine z_bipush cx (by decide) dX12_refuseLaws_16 ?_
    rw [hQ]; exact z_iret cx hp (by decide) dX12_refuseLaws_18 hf
  refine z_if_eq cx rr1 (tgt := 16) dX12_refuseLaws_5 (by decide) hf (fun _ hf => ?_) (fun _ hf => ?_)
  · exact hj16  h _ _ ls  hp (lv_sub hl [] rfl) hf
  · refine lv_aload_n cx.1 cx.2.1 dX12_refuseLaws_8 rfl (lv_at hl 0 rfl) ?_
    refine lv_iload_n cx.1 cx.2.1 dX12_refuseLaws_9 rfl (lv_at hl 2 rfl) ?_
    refine z_ci cx hp (fun o' hx => zrunV (n := 2) (As := [.int (ii a2)]) (rest := []) cx hp (mX12_isList F l g B h a0 a2 ra0 ra2 o' hx) 12 ra0 (by decide) rfl vw_X12_isList ml_X12_247 (by decide) rfl hl.1 rfl (Nat.le_of_ble_eq_true rfl) dX12_refuseLaws_10) hf (fun r2 h H locs rr2 hp hf => ?_)
    refine z_if_ne cx rr2 (tgt := 19) dX12_refuseLaws_13 (by decide) hf (fun _ hf => ?_) (fun _ hf => ?_)
    · exact hj16  h _ _ ls  hp (lv_sub hl [] rfl) hf
    · refine lv_aload_n cx.1 cx.2.1 dX12_refuseLaws_19 rfl (lv_at hl 0 rfl) ?_
      refine z_gets cx hp (T := TX12) 12 6 (a0 + 3) rfl zin_12 (by decide) (by decide) ra0 rfl fl_X12_16 dX12_refuseLaws_20 ?_
      refine lv_iload_n cx.1 cx.2.1 dX12_refuseLaws_23 rfl (lv_at hl 1 rfl) ?_
      refine z_iald cx hp (zs_12_6 a0 (kt_lt ra0 (by decide)) ra0) ra1 dX12_refuseLaws_24 hf (fun x3 rx3 hf => ?_)
      refine z_jn hf (fun j => ∀ (y57_0 : Int) (h : HF) (H : Heap) (locs : List Loc) (ls : Array Slot), rng y57_0 → Hp g B s h H locs → lv_has ls 3 [] → j y57_0 h = some o → W p l e (rmn 2) s m args below meth c H locs 0 0 Q (F0 m 57 ls [.int (ii y57_0)])) ?_ (fun j57 hj57 hf => ?_)
      · intro y57_0 h H locs ls ry57_0 hp hl hf
        rw [hQ]; exact z_iret cx hp ry57_0 dX12_refuseLaws_57 hf
      refine z_jn hf (fun j => ∀  (h : HF) (H : Heap) (locs : List Loc) (ls : Array Slot), Hp g B s h H locs → lv_has ls 3 [] → j  h = some o → W p l e (rmn 2) s m args below meth c H locs 0 0 Q (F0 m 37 ls [])) ?_ (fun j37 hj37 hf => ?_)
      · intro  h H locs ls  hp hl hf
        refine z_bipush cx (by decide) dX12_refuseLaws_37 ?_
        refine lv_goto (tgt := 57) cx.1 cx.2.1 dX12_refuseLaws_39 (by decide) ?_
        exact hj57 (-2) h _ _ ls (by decide) hp (lv_sub hl [] rfl) hf
      refine z_if_eq cx rx3 (tgt := 37) dX12_refuseLaws_25 (by decide) hf (fun _ hf => ?_) (fun _ hf => ?_)
      · exact hj37  h _ _ ls  hp (lv_sub hl [] rfl) hf
      · refine lv_aload_n cx.1 cx.2.1 dX12_refuseLaws_28 rfl (lv_at hl 0 rfl) ?_
        refine z_gets cx hp (T := TX12) 12 30 (a0 + 24) rfl zin_12 (by decide) (by decide) ra0 rfl fl_X12_79 dX12_refuseLaws_29 ?_
        refine lv_iload_n cx.1 cx.2.1 dX12_refuseLaws_32 rfl (lv_at hl 2 rfl) ?_
        refine z_iald cx hp (zs_12_30 a0 (kt_lt ra0 (by decide)) ra0) ra2 dX12_refuseLaws_33 hf (fun x4 rx4 hf => ?_)
        refine z_if_ne cx rx4 (tgt := 42) dX12_refuseLaws_34 (by decide) hf (fun _ hf => ?_) (fun _ hf => ?_)
        · exact hj37  h _ _ ls  hp (lv_sub hl [] rfl) hf
        · refine lv_aload_n cx.1 cx.2.1 dX12_refuseLaws_42 rfl (lv_at hl 0 rfl) ?_
          refine lv_iload_n cx.1 cx.2.1 dX12_refuseLaws_43 rfl (lv_at hl 1 rfl) ?_
          refine lv_iload_n cx.1 cx.2.1 dX12_refuseLaws_44 rfl (lv_at hl 2 rfl) ?_
          refine z_ci cx hp (fun o' hx => zrunV (n := 2) (As := [.int (ii a1), .int (ii a2)]) (rest := []) cx hp (mX12_fits F l g B h a0 a1 a2 ra0 ra1 ra2 o' hx) 12 ra0 (by decide) rfl vw_X12_fits ml_X12_286 (by decide) rfl hl.1 rfl (Nat.le_of_ble_eq_true rfl) dX12_refuseLaws_45) hf (fun r5 h H locs rr5 hp hf => ?_)
          refine z_if_eq cx rr5 (tgt := 55) dX12_refuseLaws_48 (by decide) hf (fun _ hf => ?_) (fun _ hf => ?_)
          · refine z_bipush cx (by decide) dX12_refuseLaws_55 ?_
            exact hj57 (-4) h _ _ ls (by decide) hp (lv_sub hl [] rfl) hf
          · refine z_iconst cx dX12_refuseLaws_51 ?_
            refine lv_goto (tgt := 57) cx.1 cx.2.1 dX12_refuseLaws_52 (by decide) ?_
            exact hj57 0 h _ _ ls (by decide) hp (lv_sub hl [] rfl) hf
theorem dX12_holds_0 : decode cX12_holds 0 = .ok (.aload_n 0, 1) := by decide +kernel
theorem dX12_holds_1 : decode cX12_holds 1 = .ok (.iconst 0, 1) := by decide +kernel
theorem dX12_holds_2 : decode cX12_holds 2 = .ok (.putfield 115, 3) := by decide +kernel
theorem dX12_holds_5 : decode cX12_holds 5 = .ok (.aload_n 0, 1) := by decide +kernel
theorem dX12_holds_6 : decode cX12_holds 6 = .ok (.iload_n 1, 1) := by decide +kernel
theorem dX12_holds_7 : decode cX12_holds 7 = .ok (.iload_n 2, 1) := by decide +kernel
theorem dX12_holds_8 : decode cX12_holds 8 = .ok (.invokevirtual 289, 3) := by decide +kernel
theorem dX12_holds_11 : decode cX12_holds 11 = .ok (.istore_n 3, 1) := by decide +kernel
theorem dX12_holds_12 : decode cX12_holds 12 = .ok (.iload_n 3, 1) := by decide +kernel
theorem dX12_holds_13 : decode cX12_holds 13 = .ok (.ifCond .eq 7, 3) := by decide +kernel
theorem dX12_holds_16 : decode cX12_holds 16 = .ok (.iload_n 3, 1) := by decide +kernel
theorem dX12_holds_17 : decode cX12_holds 17 = .ok (.goto 9, 3) := by decide +kernel
theorem dX12_holds_20 : decode cX12_holds 20 = .ok (.aload_n 0, 1) := by decide +kernel
theorem dX12_holds_21 : decode cX12_holds 21 = .ok (.iload_n 1, 1) := by decide +kernel
theorem dX12_holds_22 : decode cX12_holds 22 = .ok (.iload_n 2, 1) := by decide +kernel
theorem dX12_holds_23 : decode cX12_holds 23 = .ok (.invokevirtual 292, 3) := by decide +kernel
theorem dX12_holds_26 : decode cX12_holds 26 = .ok (.ireturn, 1) := by decide +kernel
def fX12_holds (F : Nat) (a0 : Nat) (a1 : Int) (a2 : Int) (h : HF) : RO :=
  zpf h a0 0 0 fun h =>
  zbd (fX12_refuseLaws F a0 a1 a2 h) fun r1 h =>
  zjn (fun (y26_0 : Int) (h : HF) => (
    some (y26_0, h)
  )) fun j26 =>
  if r1 = 0 then (
    zbd (fX12_broken F a0 a1 a2 h) fun r2 h =>
    j26 r2 h
  ) else (
    j26 r1 h
  )
set_option maxHeartbeats 4000000 in
set_option maxRecDepth 100000 in
theorem mX12_holds (F : Nat) (l : Launch) (g : zG) (B : Nat) (h : HF) (a0 : Nat) (a1 : Int) (a2 : Int) (ra0 : kt a0 = 15) (ra1 : rng a1) (ra2 : rng a2) : CTi l g B yX12_holds cX12_holds 4 (some .int) 18 [.ref (B + a0), .int (ii a1), .int (ii a2)] h (fX12_holds F a0 a1 a2 h) := by
  refine z_enterI (by decide) rfl (Nat.le_of_ble_eq_true rfl) ?_
  intro p e s m args below meth c ls o Q cx hp hl hf hQ
  have hl : lv_has ls 4 [(0, .ref (B + a0)), (1, .int (ii a1)), (2, .int (ii a2))] := hl
  unfold fX12_holds at hf
  refine lv_aload_n cx.1 cx.2.1 dX12_holds_0 rfl (lv_at hl 0 rfl) ?_
  refine z_iconst cx dX12_holds_1 ?_
  refine z_puti cx hp (T := TX12) tyX12 tyX12_ok nmX12 12 0 (by decide) rfl zin_12 (by decide) (by decide) ra0 rfl rfl rfl fl_X12_115 dX12_holds_2 hf (fun h H locs hp hf => ?_)
  refine lv_aload_n cx.1 cx.2.1 dX12_holds_5 rfl (lv_at hl 0 rfl) ?_
  refine lv_iload_n cx.1 cx.2.1 dX12_holds_6 rfl (lv_at hl 1 rfl) ?_
  refine lv_iload_n cx.1 cx.2.1 dX12_holds_7 rfl (lv_at hl 2 rfl) ?_
  refine z_ci cx hp (fun o' hx => zrunV (n := 18) (As := [.int (ii a1), .int (ii a2)]) (rest := []) cx hp (mX12_refuseLaws F l g B h a0 a1 a2 ra0 ra1 ra2 o' hx) 12 ra0 (by decide) rfl vw_X12_refuseLaws ml_X12_289 (by decide) rfl hl.1 rfl (Nat.le_of_ble_eq_true rfl) dX12_holds_8) hf (fun r1 h H locs rr1 hp hf => ?_)
  refine lv_istore_n (lv' := [(3, .int (ii r1)), (0, .ref (B + a0)), (1, .int (ii a1)), (2, .int (ii a2))]) cx.1 cx.2.1 dX12_holds_11 rfl hl (by decide) rfl (fun ls hl => ?_)
  refine lv_iload_n cx.1 cx.2.1 dX12_holds_12 rfl (lv_at hl 0 rfl) ?_
  refine z_jn hf (fun j => ∀ (y26_0 : Int) (h : HF) (H : Heap) (locs : List Loc) (ls : Array Slot), rng y26_0 → Hp g B s h H locs → lv_has ls 4 [] → j y26_0 h = some o → W p l e (rmn 18) s m args below meth c H locs 0 0 Q (F0 m 26 ls [.int (ii y26_0)])) ?_ (fun j26 hj26 hf => ?_)
  · intro y26_0 h H locs ls ry26_0 hp hl hf
    rw [hQ]; exact z_iret cx hp ry26_0 dX12_holds_26 hf
  refine z_if_eq cx rr1 (tgt := 20) dX12_holds_13 (by decide) hf (fun _ hf => ?_) (fun _ hf => ?_)
  · refine lv_aload_n cx.1 cx.2.1 dX12_holds_20 rfl (lv_at hl 1 rfl) ?_
    refine lv_iload_n cx.1 cx.2.1 dX12_holds_21 rfl (lv_at hl 2 rfl) ?_
    refine lv_iload_n cx.1 cx.2.1 dX12_holds_22 rfl (lv_at hl 3 rfl) ?_
    refine z_ci cx hp (fun o' hx => zrunV (n := 18) (As := [.int (ii a1), .int (ii a2)]) (rest := []) cx hp (mX12_broken F l g B h a0 a1 a2 ra0 ra1 ra2 o' hx) 12 ra0 (by decide) rfl vw_X12_broken ml_X12_292 (by decide) rfl hl.1 rfl (Nat.le_of_ble_eq_true rfl) dX12_holds_23) hf (fun r2 h H locs rr2 hp hf => ?_)
    exact hj26 r2 h _ _ ls rr2 hp (lv_sub hl [] rfl) hf
  · refine lv_iload_n cx.1 cx.2.1 dX12_holds_16 rfl (lv_at hl 0 rfl) ?_
    refine lv_goto (tgt := 26) cx.1 cx.2.1 dX12_holds_17 (by decide) ?_
    exact hj26 r1 h _ _ ls rr1 hp (lv_sub hl [] rfl) hf
theorem dX12_fails_0 : decode cX12_fails 0 = .ok (.aload_n 0, 1) := by decide +kernel
theorem dX12_fails_1 : decode cX12_fails 1 = .ok (.iconst 0, 1) := by decide +kernel
theorem dX12_fails_2 : decode cX12_fails 2 = .ok (.putfield 115, 3) := by decide +kernel
theorem dX12_fails_5 : decode cX12_fails 5 = .ok (.aload_n 0, 1) := by decide +kernel
theorem dX12_fails_6 : decode cX12_fails 6 = .ok (.iload_n 1, 1) := by decide +kernel
theorem dX12_fails_7 : decode cX12_fails 7 = .ok (.iload_n 2, 1) := by decide +kernel
theorem dX12_fails_8 : decode cX12_fails 8 = .ok (.invokevirtual 289, 3) := by decide +kernel
theorem dX12_fails_11 : decode cX12_fails 11 = .ok (.istore 4, 2) := by decide +kernel
theorem dX12_fails_13 : decode cX12_fails 13 = .ok (.iload 4, 2) := by decide +kernel
theorem dX12_fails_15 : decode cX12_fails 15 = .ok (.ifCond .eq 6, 3) := by decide +kernel
theorem dX12_fails_18 : decode cX12_fails 18 = .ok (.iload 4, 2) := by decide +kernel
theorem dX12_fails_20 : decode cX12_fails 20 = .ok (.ireturn, 1) := by decide +kernel
theorem dX12_fails_21 : decode cX12_fails 21 = .ok (.iload_n 3, 1) := by decide +kernel
theorem dX12_fails_22 : decode cX12_fails 22 = .ok (.ifCond .lt 13, 3) := by decide +kernel
theorem dX12_fails_25 : decode cX12_fails 25 = .ok (.iload_n 3, 1) := by decide +kernel
theorem dX12_fails_26 : decode cX12_fails 26 = .ok (.aload_n 0, 1) := by decide +kernel
theorem dX12_fails_27 : decode cX12_fails 27 = .ok (.getfield 79, 3) := by decide +kernel
theorem dX12_fails_30 : decode cX12_fails 30 = .ok (.iload_n 2, 1) := by decide +kernel
theorem dX12_fails_31 : decode cX12_fails 31 = .ok (.iaload, 1) := by decide +kernel
theorem dX12_fails_32 : decode cX12_fails 32 = .ok (.if_icmp .lt 8, 3) := by decide +kernel
theorem dX12_fails_40 : decode cX12_fails 40 = .ok (.aload_n 0, 1) := by decide +kernel
theorem dX12_fails_41 : decode cX12_fails 41 = .ok (.iload_n 1, 1) := by decide +kernel
theorem dX12_fails_42 : decode cX12_fails 42 = .ok (.iload_n 2, 1) := by decide +kernel
theorem dX12_fails_43 : decode cX12_fails 43 = .ok (.iload_n 3, 1) := by decide +kernel
theorem dX12_fails_44 : decode cX12_fails 44 = .ok (.iconst 0, 1) := by decide +kernel
theorem dX12_fails_45 : decode cX12_fails 45 = .ok (.invokevirtual 282, 3) := by decide +kernel
theorem dX12_fails_35 : decode cX12_fails 35 = .ok (.bipush (-3), 2) := by decide +kernel
theorem dX12_fails_37 : decode cX12_fails 37 = .ok (.goto 11, 3) := by decide +kernel
theorem dX12_fails_48 : decode cX12_fails 48 = .ok (.ireturn, 1) := by decide +kernel
def fX12_fails (F : Nat) (a0 : Nat) (a1 : Int) (a2 : Int) (a3 : Int) (h : HF) : RO :=
  zpf h a0 0 0 fun h =>
  zbd (fX12_refuseLaws F a0 a1 a2 h) fun r1 h =>
  if r1 = 0 then (
    zjn (fun (y48_0 : Int) (h : HF) => (
      some (y48_0, h)
    )) fun j48 =>
    zjn (fun  (h : HF) => (
      j48 (-3) h
    )) fun j35 =>
    if a3 < 0 then (
      j35  h
    ) else (
      zrd h (a0 + 24) a2 fun x2 =>
      if a3 < x2 then (
        zbd (fX12_failing F a0 a1 a2 a3 0 h) fun r3 h =>
        j48 r3 h
      ) else (
        j35  h
      )
    )
  ) else (
    some (r1, h)
  )
set_option maxHeartbeats 4000000 in
set_option maxRecDepth 100000 in
theorem mX12_fails (F : Nat) (l : Launch) (g : zG) (B : Nat) (h : HF) (a0 : Nat) (a1 : Int) (a2 : Int) (a3 : Int) (ra0 : kt a0 = 15) (ra1 : rng a1) (ra2 : rng a2) (ra3 : rng a3) : CTi l g B yX12_fails cX12_fails 5 (some .int) 17 [.ref (B + a0), .int (ii a1), .int (ii a2), .int (ii a3)] h (fX12_fails F a0 a1 a2 a3 h) := by
  refine z_enterI (by decide) rfl (Nat.le_of_ble_eq_true rfl) ?_
  intro p e s m args below meth c ls o Q cx hp hl hf hQ
  have hl : lv_has ls 5 [(0, .ref (B + a0)), (1, .int (ii a1)), (2, .int (ii a2)), (3, .int (ii a3))] := hl
  unfold fX12_fails at hf
  refine lv_aload_n cx.1 cx.2.1 dX12_fails_0 rfl (lv_at hl 0 rfl) ?_
  refine z_iconst cx dX12_fails_1 ?_
  refine z_puti cx hp (T := TX12) tyX12 tyX12_ok nmX12 12 0 (by decide) rfl zin_12 (by decide) (by decide) ra0 rfl rfl rfl fl_X12_115 dX12_fails_2 hf (fun h H locs hp hf => ?_)
  refine lv_aload_n cx.1 cx.2.1 dX12_fails_5 rfl (lv_at hl 0 rfl) ?_
  refine lv_iload_n cx.1 cx.2.1 dX12_fails_6 rfl (lv_at hl 1 rfl) ?_
  refine lv_iload_n cx.1 cx.2.1 dX12_fails_7 rfl (lv_at hl 2 rfl) ?_
  refine z_ci cx hp (fun o' hx => zrunV (n := 17) (As := [.int (ii a1), .int (ii a2)]) (rest := []) cx hp (mX12_refuseLaws F l g B h a0 a1 a2 ra0 ra1 ra2 o' hx) 12 ra0 (by decide) rfl vw_X12_refuseLaws ml_X12_289 (by decide) rfl hl.1 rfl (Nat.le_of_ble_eq_true rfl) dX12_fails_8) hf (fun r1 h H locs rr1 hp hf => ?_)
  refine lv_istore (lv' := [(4, .int (ii r1)), (0, .ref (B + a0)), (1, .int (ii a1)), (2, .int (ii a2)), (3, .int (ii a3))]) cx.1 cx.2.1 dX12_fails_11 hl (by decide) rfl (fun ls hl => ?_)
  refine lv_iload cx.1 cx.2.1 dX12_fails_13 (lv_at hl 0 rfl) ?_
  refine z_if_eq cx rr1 (tgt := 21) dX12_fails_15 (by decide) hf (fun _ hf => ?_) (fun _ hf => ?_)
  · refine lv_iload_n cx.1 cx.2.1 dX12_fails_21 rfl (lv_at hl 4 rfl) ?_
    refine z_jn hf (fun j => ∀ (y48_0 : Int) (h : HF) (H : Heap) (locs : List Loc) (ls : Array Slot), rng y48_0 → Hp g B s h H locs → lv_has ls 5 [] → j y48_0 h = some o → W p l e (rmn 17) s m args below meth c H locs 0 0 Q (F0 m 48 ls [.int (ii y48_0)])) ?_ (fun j48 hj48 hf => ?_)
    · intro y48_0 h H locs ls ry48_0 hp hl hf
      rw [hQ]; exact z_iret cx hp ry48_0 dX12_fails_48 hf
    refine z_jn hf (fun j => ∀  (h : HF) (H : Heap) (locs : List Loc) (ls : Array Slot), Hp g B s h H locs → lv_has ls 5 [] → j  h = some o → W p l e (rmn 17) s m args below meth c H locs 0 0 Q (F0 m 35 ls [])) ?_ (fun j35 hj35 hf => ?_)
    · intro  h H locs ls  hp hl hf
      refine z_bipush cx (by decide) dX12_fails_35 ?_
      refine lv_goto (tgt := 48) cx.1 cx.2.1 dX12_fails_37 (by decide) ?_
      exact hj48 (-3) h _ _ ls (by decide) hp (lv_sub hl [] rfl) hf
    refine z_if_lt cx ra3 (tgt := 35) dX12_fails_22 (by decide) hf (fun _ hf => ?_) (fun _ hf => ?_)
    · exact hj35  h _ _ ls  hp (lv_sub hl [] rfl) hf
    · refine lv_iload_n cx.1 cx.2.1 dX12_fails_25 rfl (lv_at hl 4 rfl) ?_
      refine lv_aload_n cx.1 cx.2.1 dX12_fails_26 rfl (lv_at hl 1 rfl) ?_
      refine z_gets cx hp (T := TX12) 12 30 (a0 + 24) rfl zin_12 (by decide) (by decide) ra0 rfl fl_X12_79 dX12_fails_27 ?_
      refine lv_iload_n cx.1 cx.2.1 dX12_fails_30 rfl (lv_at hl 3 rfl) ?_
      refine z_iald cx hp (zs_12_30 a0 (kt_lt ra0 (by decide)) ra0) ra2 dX12_fails_31 hf (fun x2 rx2 hf => ?_)
      refine z_icmp_lt cx ra3 rx2 (tgt := 40) dX12_fails_32 (by decide) hf (fun _ hf => ?_) (fun _ hf => ?_)
      · refine lv_aload_n cx.1 cx.2.1 dX12_fails_40 rfl (lv_at hl 1 rfl) ?_
        refine lv_iload_n cx.1 cx.2.1 dX12_fails_41 rfl (lv_at hl 2 rfl) ?_
        refine lv_iload_n cx.1 cx.2.1 dX12_fails_42 rfl (lv_at hl 3 rfl) ?_
        refine lv_iload_n cx.1 cx.2.1 dX12_fails_43 rfl (lv_at hl 4 rfl) ?_
        refine z_iconst cx dX12_fails_44 ?_
        refine z_ci cx hp (fun o' hx => zrunV (n := 17) (As := [.int (ii a1), .int (ii a2), .int (ii a3), .int (ii 0)]) (rest := []) cx hp (mX12_failing F l g B h a0 a1 a2 a3 0 ra0 ra1 ra2 ra3 (by decide) o' hx) 12 ra0 (by decide) rfl vw_X12_failing ml_X12_282 (by decide) rfl hl.1 rfl (Nat.le_of_ble_eq_true rfl) dX12_fails_45) hf (fun r3 h H locs rr3 hp hf => ?_)
        exact hj48 r3 h _ _ ls rr3 hp (lv_sub hl [] rfl) hf
      · exact hj35  h _ _ ls  hp (lv_sub hl [] rfl) hf
  · refine lv_iload cx.1 cx.2.1 dX12_fails_18 (lv_at hl 0 rfl) ?_
    rw [hQ]; exact z_iret cx hp rr1 dX12_fails_20 hf
theorem dX12_witness_0 : decode cX12_witness 0 = .ok (.aload_n 0, 1) := by decide +kernel
theorem dX12_witness_1 : decode cX12_witness 1 = .ok (.iconst 0, 1) := by decide +kernel
theorem dX12_witness_2 : decode cX12_witness 2 = .ok (.putfield 115, 3) := by decide +kernel
theorem dX12_witness_5 : decode cX12_witness 5 = .ok (.aload_n 0, 1) := by decide +kernel
theorem dX12_witness_6 : decode cX12_witness 6 = .ok (.iload_n 1, 1) := by decide +kernel
theorem dX12_witness_7 : decode cX12_witness 7 = .ok (.iload_n 2, 1) := by decide +kernel
theorem dX12_witness_8 : decode cX12_witness 8 = .ok (.invokevirtual 289, 3) := by decide +kernel
theorem dX12_witness_11 : decode cX12_witness 11 = .ok (.istore 4, 2) := by decide +kernel
theorem dX12_witness_13 : decode cX12_witness 13 = .ok (.iload 4, 2) := by decide +kernel
theorem dX12_witness_15 : decode cX12_witness 15 = .ok (.ifCond .eq 6, 3) := by decide +kernel
theorem dX12_witness_18 : decode cX12_witness 18 = .ok (.iload 4, 2) := by decide +kernel
theorem dX12_witness_20 : decode cX12_witness 20 = .ok (.ireturn, 1) := by decide +kernel
theorem dX12_witness_21 : decode cX12_witness 21 = .ok (.iload_n 3, 1) := by decide +kernel
theorem dX12_witness_22 : decode cX12_witness 22 = .ok (.ifCond .lt 13, 3) := by decide +kernel
theorem dX12_witness_25 : decode cX12_witness 25 = .ok (.iload_n 3, 1) := by decide +kernel
theorem dX12_witness_26 : decode cX12_witness 26 = .ok (.aload_n 0, 1) := by decide +kernel
theorem dX12_witness_27 : decode cX12_witness 27 = .ok (.getfield 79, 3) := by decide +kernel
theorem dX12_witness_30 : decode cX12_witness 30 = .ok (.iload_n 2, 1) := by decide +kernel
theorem dX12_witness_31 : decode cX12_witness 31 = .ok (.iaload, 1) := by decide +kernel
theorem dX12_witness_32 : decode cX12_witness 32 = .ok (.if_icmp .lt 6, 3) := by decide +kernel
theorem dX12_witness_38 : decode cX12_witness 38 = .ok (.aload_n 0, 1) := by decide +kernel
theorem dX12_witness_39 : decode cX12_witness 39 = .ok (.iload_n 1, 1) := by decide +kernel
theorem dX12_witness_40 : decode cX12_witness 40 = .ok (.iload_n 2, 1) := by decide +kernel
theorem dX12_witness_41 : decode cX12_witness 41 = .ok (.iload_n 3, 1) := by decide +kernel
theorem dX12_witness_42 : decode cX12_witness 42 = .ok (.iconst 1, 1) := by decide +kernel
theorem dX12_witness_43 : decode cX12_witness 43 = .ok (.invokevirtual 282, 3) := by decide +kernel
theorem dX12_witness_46 : decode cX12_witness 46 = .ok (.istore 5, 2) := by decide +kernel
theorem dX12_witness_48 : decode cX12_witness 48 = .ok (.aload_n 0, 1) := by decide +kernel
theorem dX12_witness_49 : decode cX12_witness 49 = .ok (.getfield 276, 3) := by decide +kernel
theorem dX12_witness_52 : decode cX12_witness 52 = .ok (.ireturn, 1) := by decide +kernel
theorem dX12_witness_35 : decode cX12_witness 35 = .ok (.bipush (-3), 2) := by decide +kernel
theorem dX12_witness_37 : decode cX12_witness 37 = .ok (.ireturn, 1) := by decide +kernel
def fX12_witness (F : Nat) (a0 : Nat) (a1 : Int) (a2 : Int) (a3 : Int) (h : HF) : RO :=
  zpf h a0 0 0 fun h =>
  zbd (fX12_refuseLaws F a0 a1 a2 h) fun r1 h =>
  if r1 = 0 then (
    zjn (fun  (h : HF) => (
      some ((-3), h)
    )) fun j35 =>
    if a3 < 0 then (
      j35  h
    ) else (
      zrd h (a0 + 24) a2 fun x2 =>
      if a3 < x2 then (
        zbd (fX12_failing F a0 a1 a2 a3 1 h) fun r3 h =>
        zgf h a0 40 fun x4 =>
        some (x4, h)
      ) else (
        j35  h
      )
    )
  ) else (
    some (r1, h)
  )
set_option maxHeartbeats 4000000 in
set_option maxRecDepth 100000 in
theorem mX12_witness (F : Nat) (l : Launch) (g : zG) (B : Nat) (h : HF) (a0 : Nat) (a1 : Int) (a2 : Int) (a3 : Int) (ra0 : kt a0 = 15) (ra1 : rng a1) (ra2 : rng a2) (ra3 : rng a3) : CTi l g B yX12_witness cX12_witness 6 (some .int) 17 [.ref (B + a0), .int (ii a1), .int (ii a2), .int (ii a3)] h (fX12_witness F a0 a1 a2 a3 h) := by
  refine z_enterI (by decide) rfl (Nat.le_of_ble_eq_true rfl) ?_
  intro p e s m args below meth c ls o Q cx hp hl hf hQ
  have hl : lv_has ls 6 [(0, .ref (B + a0)), (1, .int (ii a1)), (2, .int (ii a2)), (3, .int (ii a3))] := hl
  unfold fX12_witness at hf
  refine lv_aload_n cx.1 cx.2.1 dX12_witness_0 rfl (lv_at hl 0 rfl) ?_
  refine z_iconst cx dX12_witness_1 ?_
  refine z_puti cx hp (T := TX12) tyX12 tyX12_ok nmX12 12 0 (by decide) rfl zin_12 (by decide) (by decide) ra0 rfl rfl rfl fl_X12_115 dX12_witness_2 hf (fun h H locs hp hf => ?_)
  refine lv_aload_n cx.1 cx.2.1 dX12_witness_5 rfl (lv_at hl 0 rfl) ?_
  refine lv_iload_n cx.1 cx.2.1 dX12_witness_6 rfl (lv_at hl 1 rfl) ?_
  refine lv_iload_n cx.1 cx.2.1 dX12_witness_7 rfl (lv_at hl 2 rfl) ?_
  refine z_ci cx hp (fun o' hx => zrunV (n := 17) (As := [.int (ii a1), .int (ii a2)]) (rest := []) cx hp (mX12_refuseLaws F l g B h a0 a1 a2 ra0 ra1 ra2 o' hx) 12 ra0 (by decide) rfl vw_X12_refuseLaws ml_X12_289 (by decide) rfl hl.1 rfl (Nat.le_of_ble_eq_true rfl) dX12_witness_8) hf (fun r1 h H locs rr1 hp hf => ?_)
  refine lv_istore (lv' := [(4, .int (ii r1)), (0, .ref (B + a0)), (1, .int (ii a1)), (2, .int (ii a2)), (3, .int (ii a3))]) cx.1 cx.2.1 dX12_witness_11 hl (by decide) rfl (fun ls hl => ?_)
  refine lv_iload cx.1 cx.2.1 dX12_witness_13 (lv_at hl 0 rfl) ?_
  refine z_if_eq cx rr1 (tgt := 21) dX12_witness_15 (by decide) hf (fun _ hf => ?_) (fun _ hf => ?_)
  · refine lv_iload_n cx.1 cx.2.1 dX12_witness_21 rfl (lv_at hl 4 rfl) ?_
    refine z_jn hf (fun j => ∀  (h : HF) (H : Heap) (locs : List Loc) (ls : Array Slot), Hp g B s h H locs → lv_has ls 6 [] → j  h = some o → W p l e (rmn 17) s m args below meth c H locs 0 0 Q (F0 m 35 ls [])) ?_ (fun j35 hj35 hf => ?_)
    · intro  h H locs ls  hp hl hf
      refine z_bipush cx (by decide) dX12_witness_35 ?_
      rw [hQ]; exact z_iret cx hp (by decide) dX12_witness_37 hf
    refine z_if_lt cx ra3 (tgt := 35) dX12_witness_22 (by decide) hf (fun _ hf => ?_) (fun _ hf => ?_)
    · exact hj35  h _ _ ls  hp (lv_sub hl [] rfl) hf
    · refine lv_iload_n cx.1 cx.2.1 dX12_witness_25 rfl (lv_at hl 4 rfl) ?_
      refine lv_aload_n cx.1 cx.2.1 dX12_witness_26 rfl (lv_at hl 1 rfl) ?_
      refine z_gets cx hp (T := TX12) 12 30 (a0 + 24) rfl zin_12 (by decide) (by decide) ra0 rfl fl_X12_79 dX12_witness_27 ?_
      refine lv_iload_n cx.1 cx.2.1 dX12_witness_30 rfl (lv_at hl 3 rfl) ?_
      refine z_iald cx hp (zs_12_30 a0 (kt_lt ra0 (by decide)) ra0) ra2 dX12_witness_31 hf (fun x2 rx2 hf => ?_)
      refine z_icmp_lt cx ra3 rx2 (tgt := 38) dX12_witness_32 (by decide) hf (fun _ hf => ?_) (fun _ hf => ?_)
      · refine lv_aload_n cx.1 cx.2.1 dX12_witness_38 rfl (lv_at hl 1 rfl) ?_
        refine lv_iload_n cx.1 cx.2.1 dX12_witness_39 rfl (lv_at hl 2 rfl) ?_
        refine lv_iload_n cx.1 cx.2.1 dX12_witness_40 rfl (lv_at hl 3 rfl) ?_
        refine lv_iload_n cx.1 cx.2.1 dX12_witness_41 rfl (lv_at hl 4 rfl) ?_
        refine z_iconst cx dX12_witness_42 ?_
        refine z_ci cx hp (fun o' hx => zrunV (n := 17) (As := [.int (ii a1), .int (ii a2), .int (ii a3), .int (ii 1)]) (rest := []) cx hp (mX12_failing F l g B h a0 a1 a2 a3 1 ra0 ra1 ra2 ra3 (by decide) o' hx) 12 ra0 (by decide) rfl vw_X12_failing ml_X12_282 (by decide) rfl hl.1 rfl (Nat.le_of_ble_eq_true rfl) dX12_witness_43) hf (fun r3 h H locs rr3 hp hf => ?_)
        refine lv_istore (lv' := [(5, .int (ii r3)), (4, .int (ii r1)), (0, .ref (B + a0)), (1, .int (ii a1)), (2, .int (ii a2)), (3, .int (ii a3))]) cx.1 cx.2.1 dX12_witness_46 hl (by decide) rfl (fun ls hl => ?_)
        refine lv_aload_n cx.1 cx.2.1 dX12_witness_48 rfl (lv_at hl 2 rfl) ?_
        refine z_geti cx hp (T := TX12) 12 40 rfl zin_12 (by decide) (by decide) ra0 rfl fl_X12_276 dX12_witness_49 hf (fun x4 rx4 hf => ?_)
        rw [hQ]; exact z_iret cx hp rx4 dX12_witness_52 hf
      · exact hj35  h _ _ ls  hp (lv_sub hl [] rfl) hf
  · refine lv_iload cx.1 cx.2.1 dX12_witness_18 (lv_at hl 0 rfl) ?_
    rw [hQ]; exact z_iret cx hp rr1 dX12_witness_20 hf
theorem dX12_isClosed_0 : decode cX12_isClosed 0 = .ok (.iconst 0, 1) := by decide +kernel
theorem dX12_isClosed_1 : decode cX12_isClosed 1 = .ok (.istore_n 3, 1) := by decide +kernel
theorem dX12_isClosed_2 : decode cX12_isClosed 2 = .ok (.iload_n 3, 1) := by decide +kernel
theorem dX12_isClosed_3 : decode cX12_isClosed 3 = .ok (.aload_n 0, 1) := by decide +kernel
theorem dX12_isClosed_4 : decode cX12_isClosed 4 = .ok (.getfield 19, 3) := by decide +kernel
theorem dX12_isClosed_7 : decode cX12_isClosed 7 = .ok (.iload_n 1, 1) := by decide +kernel
theorem dX12_isClosed_8 : decode cX12_isClosed 8 = .ok (.iaload, 1) := by decide +kernel
theorem dX12_isClosed_9 : decode cX12_isClosed 9 = .ok (.if_icmp .ge 139, 3) := by decide +kernel
theorem dX12_isClosed_12 : decode cX12_isClosed 12 = .ok (.aload_n 0, 1) := by decide +kernel
theorem dX12_isClosed_13 : decode cX12_isClosed 13 = .ok (.iload_n 1, 1) := by decide +kernel
theorem dX12_isClosed_14 : decode cX12_isClosed 14 = .ok (.iload_n 3, 1) := by decide +kernel
theorem dX12_isClosed_15 : decode cX12_isClosed 15 = .ok (.invokevirtual 129, 3) := by decide +kernel
theorem dX12_isClosed_18 : decode cX12_isClosed 18 = .ok (.istore 4, 2) := by decide +kernel
theorem dX12_isClosed_20 : decode cX12_isClosed 20 = .ok (.iconst 0, 1) := by decide +kernel
theorem dX12_isClosed_21 : decode cX12_isClosed 21 = .ok (.istore 5, 2) := by decide +kernel
theorem dX12_isClosed_23 : decode cX12_isClosed 23 = .ok (.iload 5, 2) := by decide +kernel
theorem dX12_isClosed_25 : decode cX12_isClosed 25 = .ok (.iload 4, 2) := by decide +kernel
theorem dX12_isClosed_27 : decode cX12_isClosed 27 = .ok (.ifCond .le 12, 3) := by decide +kernel
theorem dX12_isClosed_30 : decode cX12_isClosed 30 = .ok (.aload_n 0, 1) := by decide +kernel
theorem dX12_isClosed_31 : decode cX12_isClosed 31 = .ok (.getfield 16, 3) := by decide +kernel
theorem dX12_isClosed_34 : decode cX12_isClosed 34 = .ok (.iload_n 1, 1) := by decide +kernel
theorem dX12_isClosed_35 : decode cX12_isClosed 35 = .ok (.iaload, 1) := by decide +kernel
theorem dX12_isClosed_36 : decode cX12_isClosed 36 = .ok (.goto 4, 3) := by decide +kernel
theorem dX12_isClosed_39 : decode cX12_isClosed 39 = .ok (.iconst 1, 1) := by decide +kernel
theorem dX12_isClosed_40 : decode cX12_isClosed 40 = .ok (.if_icmp .ge 102, 3) := by decide +kernel
theorem dX12_isClosed_43 : decode cX12_isClosed 43 = .ok (.iconst 0, 1) := by decide +kernel
theorem dX12_isClosed_44 : decode cX12_isClosed 44 = .ok (.istore 6, 2) := by decide +kernel
theorem dX12_isClosed_46 : decode cX12_isClosed 46 = .ok (.iload 6, 2) := by decide +kernel
theorem dX12_isClosed_48 : decode cX12_isClosed 48 = .ok (.iload 4, 2) := by decide +kernel
theorem dX12_isClosed_50 : decode cX12_isClosed 50 = .ok (.iconst 1, 1) := by decide +kernel
theorem dX12_isClosed_51 : decode cX12_isClosed 51 = .ok (.if_icmp .le 12, 3) := by decide +kernel
theorem dX12_isClosed_54 : decode cX12_isClosed 54 = .ok (.aload_n 0, 1) := by decide +kernel
theorem dX12_isClosed_55 : decode cX12_isClosed 55 = .ok (.getfield 16, 3) := by decide +kernel
theorem dX12_isClosed_58 : decode cX12_isClosed 58 = .ok (.iload_n 1, 1) := by decide +kernel
theorem dX12_isClosed_59 : decode cX12_isClosed 59 = .ok (.iaload, 1) := by decide +kernel
theorem dX12_isClosed_60 : decode cX12_isClosed 60 = .ok (.goto 4, 3) := by decide +kernel
theorem dX12_isClosed_63 : decode cX12_isClosed 63 = .ok (.iconst 1, 1) := by decide +kernel
theorem dX12_isClosed_64 : decode cX12_isClosed 64 = .ok (.if_icmp .ge 72, 3) := by decide +kernel
theorem dX12_isClosed_67 : decode cX12_isClosed 67 = .ok (.iload 4, 2) := by decide +kernel
theorem dX12_isClosed_69 : decode cX12_isClosed 69 = .ok (.iconst 1, 1) := by decide +kernel
theorem dX12_isClosed_70 : decode cX12_isClosed 70 = .ok (.if_icmp .lt 13, 3) := by decide +kernel
theorem dX12_isClosed_73 : decode cX12_isClosed 73 = .ok (.iload_n 2, 1) := by decide +kernel
theorem dX12_isClosed_74 : decode cX12_isClosed 74 = .ok (.iload 5, 2) := by decide +kernel
theorem dX12_isClosed_76 : decode cX12_isClosed 76 = .ok (.ishr, 1) := by decide +kernel
theorem dX12_isClosed_77 : decode cX12_isClosed 77 = .ok (.iconst 1, 1) := by decide +kernel
theorem dX12_isClosed_78 : decode cX12_isClosed 78 = .ok (.iand, 1) := by decide +kernel
theorem dX12_isClosed_79 : decode cX12_isClosed 79 = .ok (.iconst 1, 1) := by decide +kernel
theorem dX12_isClosed_80 : decode cX12_isClosed 80 = .ok (.if_icmp .ne 23, 3) := by decide +kernel
theorem dX12_isClosed_83 : decode cX12_isClosed 83 = .ok (.iload 4, 2) := by decide +kernel
theorem dX12_isClosed_85 : decode cX12_isClosed 85 = .ok (.iconst 2, 1) := by decide +kernel
theorem dX12_isClosed_86 : decode cX12_isClosed 86 = .ok (.if_icmp .lt 13, 3) := by decide +kernel
theorem dX12_isClosed_89 : decode cX12_isClosed 89 = .ok (.iload_n 2, 1) := by decide +kernel
theorem dX12_isClosed_90 : decode cX12_isClosed 90 = .ok (.iload 6, 2) := by decide +kernel
theorem dX12_isClosed_92 : decode cX12_isClosed 92 = .ok (.ishr, 1) := by decide +kernel
theorem dX12_isClosed_93 : decode cX12_isClosed 93 = .ok (.iconst 1, 1) := by decide +kernel
theorem dX12_isClosed_94 : decode cX12_isClosed 94 = .ok (.iand, 1) := by decide +kernel
theorem dX12_isClosed_95 : decode cX12_isClosed 95 = .ok (.iconst 1, 1) := by decide +kernel
theorem dX12_isClosed_96 : decode cX12_isClosed 96 = .ok (.if_icmp .ne 7, 3) := by decide +kernel
theorem dX12_isClosed_103 : decode cX12_isClosed 103 = .ok (.iconst 0, 1) := by decide +kernel
theorem dX12_isClosed_99 : decode cX12_isClosed 99 = .ok (.iconst 1, 1) := by decide +kernel
theorem dX12_isClosed_100 : decode cX12_isClosed 100 = .ok (.goto 4, 3) := by decide +kernel
theorem dX12_isClosed_104 : decode cX12_isClosed 104 = .ok (.istore 7, 2) := by decide +kernel
theorem dX12_isClosed_106 : decode cX12_isClosed 106 = .ok (.iload 7, 2) := by decide +kernel
theorem dX12_isClosed_108 : decode cX12_isClosed 108 = .ok (.ifCond .eq 22, 3) := by decide +kernel
theorem dX12_isClosed_111 : decode cX12_isClosed 111 = .ok (.iload_n 2, 1) := by decide +kernel
theorem dX12_isClosed_112 : decode cX12_isClosed 112 = .ok (.aload_n 0, 1) := by decide +kernel
theorem dX12_isClosed_113 : decode cX12_isClosed 113 = .ok (.iload_n 1, 1) := by decide +kernel
theorem dX12_isClosed_114 : decode cX12_isClosed 114 = .ok (.iload_n 3, 1) := by decide +kernel
theorem dX12_isClosed_115 : decode cX12_isClosed 115 = .ok (.iload 5, 2) := by decide +kernel
theorem dX12_isClosed_117 : decode cX12_isClosed 117 = .ok (.iload 6, 2) := by decide +kernel
theorem dX12_isClosed_119 : decode cX12_isClosed 119 = .ok (.invokevirtual 178, 3) := by decide +kernel
theorem dX12_isClosed_122 : decode cX12_isClosed 122 = .ok (.ishr, 1) := by decide +kernel
theorem dX12_isClosed_123 : decode cX12_isClosed 123 = .ok (.iconst 1, 1) := by decide +kernel
theorem dX12_isClosed_124 : decode cX12_isClosed 124 = .ok (.iand, 1) := by decide +kernel
theorem dX12_isClosed_125 : decode cX12_isClosed 125 = .ok (.ifCond .ne 5, 3) := by decide +kernel
theorem dX12_isClosed_128 : decode cX12_isClosed 128 = .ok (.iconst 0, 1) := by decide +kernel
theorem dX12_isClosed_129 : decode cX12_isClosed 129 = .ok (.ireturn, 1) := by decide +kernel
theorem dX12_isClosed_130 : decode cX12_isClosed 130 = .ok (.iinc 6 1, 3) := by decide +kernel
theorem dX12_isClosed_133 : decode cX12_isClosed 133 = .ok (.goto (-87), 3) := by decide +kernel
theorem dX12_isClosed_136 : decode cX12_isClosed 136 = .ok (.iinc 5 1, 3) := by decide +kernel
theorem dX12_isClosed_139 : decode cX12_isClosed 139 = .ok (.goto (-116), 3) := by decide +kernel
theorem dX12_isClosed_142 : decode cX12_isClosed 142 = .ok (.iinc 3 1, 3) := by decide +kernel
theorem dX12_isClosed_145 : decode cX12_isClosed 145 = .ok (.goto (-143), 3) := by decide +kernel
theorem dX12_isClosed_148 : decode cX12_isClosed 148 = .ok (.iconst 1, 1) := by decide +kernel
theorem dX12_isClosed_149 : decode cX12_isClosed 149 = .ok (.ireturn, 1) := by decide +kernel
def LX12_isClosed_46 (F : Nat) (u0 : Nat) (u1 : Int) (u2 : Int) (u3 : Int) (u4 : Int) (u5 : Int) (k136 : Int → HF → RO) (k128 : HF → RO) : Nat → Int → HF → RO
  | 0, _, _ => none
  | n + 1, v6, h =>
    zjn (fun (x64_6 : Int) (y64_0 : Int) (y64_1 : Int) (h : HF) => (
      if y64_1 < y64_0 then (
        zjn (fun (x104_6 : Int) (y104_0 : Int) (h : HF) => (
          zjn (fun (x130_6 : Int) (h : HF) => (
            zlet (wr (x130_6 + 1)) fun x5 =>
            LX12_isClosed_46 F u0 u1 u2 u3 u4 u5 k136 k128 n x5 h
          )) fun j130 =>
          if y104_0 = 0 then (
            j130 x104_6 h
          ) else (
            zbd (fX12_value F u0 u1 u3 u5 x104_6 h) fun r6 h =>
            if wand (wshr u2 r6) 1 = 0 then (
              k128  h
            ) else (
              j130 x104_6 h
            )
          )
        )) fun j104 =>
        zjn (fun (x103_6 : Int) (h : HF) => (
          j104 x103_6 0 h
        )) fun j103 =>
        zjn (fun (x83_6 : Int) (h : HF) => (
          zjn (fun (x99_6 : Int) (h : HF) => (
            j104 x99_6 1 h
          )) fun j99 =>
          if u4 < 2 then (
            j99 x83_6 h
          ) else (
            if wand (wshr u2 x83_6) 1 = 1 then (
              j99 x83_6 h
            ) else (
              j103 x83_6 h
            )
          )
        )) fun j83 =>
        if u4 < 1 then (
          j83 x64_6 h
        ) else (
          if wand (wshr u2 u5) 1 = 1 then (
            j83 x64_6 h
          ) else (
            j103 x64_6 h
          )
        )
      ) else (
        k136 u5 h
      )
    )) fun j64 =>
    if 1 < u4 then (
      zrd h (u0 + 3) u1 fun x7 =>
      j64 v6 x7 v6 h
    ) else (
      j64 v6 1 v6 h
    )
set_option maxHeartbeats 4000000 in
set_option maxRecDepth 100000 in
theorem wX12_isClosed_46 {p : Program} {l : Launch} {e : Env} {s : State} {m : MethodId} {args : Array Value} {below : List Frame} {meth : Method} {c : Code} {Q : State → Prop} {g : zG} {B : Nat} {o : Int × HF} (F : Nat) (cx : Cx p s m args meth c cX12_isClosed 8 RX12 (some .boolean) g B) (u0 : Nat) (ru0 : kt u0 = 15) (u1 : Int) (ru1 : rng u1) (u2 : Int) (ru2 : rng u2) (u3 : Int) (ru3 : rng u3) (u4 : Int) (ru4 : rng u4) (u5 : Int) (ru5 : rng u5) (k136 : Int → HF → RO) (hk136 : ∀ (x5 : Int) (h : HF) (H : Heap) (locs : List Loc) (ls : Array Slot), rng x5 → Hp g B s h H locs → lv_has ls 8 [(0, .ref (B + u0)), (1, .int (ii u1)), (2, .int (ii u2)), (3, .int (ii u3)), (4, .int (ii u4)), (5, .int (ii x5))] → k136 x5 h = some o → W p l e (rmn 3) s m args below meth c H locs 0 0 Q (F0 m 136 ls [])) (k128 : HF → RO) (hk128 : ∀  (h : HF) (H : Heap) (locs : List Loc) (ls : Array Slot), Hp g B s h H locs → lv_has ls 8 [] → k128  h = some o → W p l e (rmn 3) s m args below meth c H locs 0 0 Q (F0 m 128 ls [])) : ∀ (n : Nat) (v6 : Int) (h : HF) (H : Heap) (locs : List Loc) (ls : Array Slot), rng v6 → Hp g B s h H locs → lv_has ls 8 [(0, .ref (B + u0)), (1, .int (ii u1)), (2, .int (ii u2)), (3, .int (ii u3)), (4, .int (ii u4)), (5, .int (ii u5)), (6, .int (ii v6))] → LX12_isClosed_46 F u0 u1 u2 u3 u4 u5 k136 k128 n v6 h = some o → W p l e (rmn 3) s m args below meth c H locs 0 0 Q (F0 m 46 ls []) := by
  intro n
  induction n with
  | zero =>
    intro v6 h H locs ls rv6 hp hl hf
    cases hf
  | succ n ih =>
    intro v6 h H locs ls rv6 hp hl hf
    rw [LX12_isClosed_46] at hf
    refine lv_iload cx.1 cx.2.1 dX12_isClosed_46 (lv_at hl 6 rfl) ?_
    refine lv_iload cx.1 cx.2.1 dX12_isClosed_48 (lv_at hl 4 rfl) ?_
    refine z_iconst cx dX12_isClosed_50 ?_
    refine z_jn hf (fun j => ∀ (x64_6 : Int) (y64_0 : Int) (y64_1 : Int) (h : HF) (H : Heap) (locs : List Loc) (ls : Array Slot), rng x64_6 → rng y64_0 → rng y64_1 → Hp g B s h H locs → lv_has ls 8 [(0, .ref (B + u0)), (1, .int (ii u1)), (2, .int (ii u2)), (3, .int (ii u3)), (4, .int (ii u4)), (5, .int (ii u5)), (6, .int (ii x64_6))] → j x64_6 y64_0 y64_1 h = some o → W p l e (rmn 3) s m args below meth c H locs 0 0 Q (F0 m 64 ls [.int (ii y64_0), .int (ii y64_1)])) ?_ (fun j64 hj64 hf => ?_)
    · intro x64_6 y64_0 y64_1 h H locs ls rx64_6 ry64_0 ry64_1 hp hl hf
      refine z_icmp_ge cx ry64_1 ry64_0 (tgt := 136) dX12_isClosed_64 (by decide) hf (fun _ hf => ?_) (fun _ hf => ?_)
      · refine lv_iload cx.1 cx.2.1 dX12_isClosed_67 (lv_at hl 4 rfl) ?_
        refine z_iconst cx dX12_isClosed_69 ?_
        refine z_jn hf (fun j => ∀ (x104_6 : Int) (y104_0 : Int) (h : HF) (H : Heap) (locs : List Loc) (ls : Array Slot), rng x104_6 → rng y104_0 → Hp g B s h H locs → lv_has ls 8 [(0, .ref (B + u0)), (1, .int (ii u1)), (2, .int (ii u2)), (3, .int (ii u3)), (4, .int (ii u4)), (5, .int (ii u5)), (6, .int (ii x104_6))] → j x104_6 y104_0 h = some o → W p l e (rmn 3) s m args below meth c H locs 0 0 Q (F0 m 104 ls [.int (ii y104_0)])) ?_ (fun j104 hj104 hf => ?_)
        · intro x104_6 y104_0 h H locs ls rx104_6 ry104_0 hp hl hf
          refine lv_istore (lv' := [(7, .int (ii y104_0)), (0, .ref (B + u0)), (1, .int (ii u1)), (2, .int (ii u2)), (3, .int (ii u3)), (4, .int (ii u4)), (5, .int (ii u5)), (6, .int (ii x104_6))]) cx.1 cx.2.1 dX12_isClosed_104 hl (by decide) rfl (fun ls hl => ?_)
          refine lv_iload cx.1 cx.2.1 dX12_isClosed_106 (lv_at hl 0 rfl) ?_
          refine z_jn hf (fun j => ∀ (x130_6 : Int) (h : HF) (H : Heap) (locs : List Loc) (ls : Array Slot), rng x130_6 → Hp g B s h H locs → lv_has ls 8 [(0, .ref (B + u0)), (1, .int (ii u1)), (2, .int (ii u2)), (3, .int (ii u3)), (4, .int (ii u4)), (5, .int (ii u5)), (6, .int (ii x130_6))] → j x130_6 h = some o → W p l e (rmn 3) s m args below meth c H locs 0 0 Q (F0 m 130 ls [])) ?_ (fun j130 hj130 hf => ?_)
          · intro x130_6 h H locs ls rx130_6 hp hl hf
            refine z_iinc cx (fun x5 => [(6, .int (ii x5)), (0, .ref (B + u0)), (1, .int (ii u1)), (2, .int (ii u2)), (3, .int (ii u3)), (4, .int (ii u4)), (5, .int (ii u5))]) dX12_isClosed_130 hl (k := 6) rfl (by decide) (fun _ => rfl) hf (fun x5 rx5 hf ls hl => ?_)
            refine lv_goto (tgt := 46) cx.1 cx.2.1 dX12_isClosed_133 (by decide) ?_
            exact ih x5 h _ _ ls rx5 hp (lv_sub hl [1, 2, 3, 4, 5, 6, 0] rfl) hf
          refine z_if_eq cx ry104_0 (tgt := 130) dX12_isClosed_108 (by decide) hf (fun _ hf => ?_) (fun _ hf => ?_)
          · exact hj130 x104_6 h _ _ ls rx104_6 hp (lv_sub hl [1, 2, 3, 4, 5, 6, 7] rfl) hf
          · refine lv_iload_n cx.1 cx.2.1 dX12_isClosed_111 rfl (lv_at hl 3 rfl) ?_
            refine lv_aload_n cx.1 cx.2.1 dX12_isClosed_112 rfl (lv_at hl 1 rfl) ?_
            refine lv_iload_n cx.1 cx.2.1 dX12_isClosed_113 rfl (lv_at hl 2 rfl) ?_
            refine lv_iload_n cx.1 cx.2.1 dX12_isClosed_114 rfl (lv_at hl 4 rfl) ?_
            refine lv_iload cx.1 cx.2.1 dX12_isClosed_115 (lv_at hl 6 rfl) ?_
            refine lv_iload cx.1 cx.2.1 dX12_isClosed_117 (lv_at hl 7 rfl) ?_
            refine z_ci cx hp (fun o' hx => zrunV (n := 3) (As := [.int (ii u1), .int (ii u3), .int (ii u5), .int (ii x104_6)]) (rest := [.int (ii u2)]) cx hp (mX12_value F l g B h u0 u1 u3 u5 x104_6 ru0 ru1 ru3 ru5 rx104_6 o' hx) 12 ru0 (by decide) rfl vw_X12_value ml_X12_178 (by decide) rfl hl.1 rfl (Nat.le_of_ble_eq_true rfl) dX12_isClosed_119) hf (fun r6 h H locs rr6 hp hf => ?_)
            refine z_ishr cx dX12_isClosed_122 ?_
            refine z_iconst cx dX12_isClosed_123 ?_
            refine z_iand cx dX12_isClosed_124 ?_
            refine z_if_ne cx (rng_and _ _) (tgt := 130) dX12_isClosed_125 (by decide) hf (fun _ hf => ?_) (fun _ hf => ?_)
            · exact hk128  h _ _ ls  hp (lv_sub hl [] rfl) hf
            · exact hj130 x104_6 h _ _ ls rx104_6 hp (lv_sub hl [1, 2, 3, 4, 5, 6, 7] rfl) hf
        refine z_jn hf (fun j => ∀ (x103_6 : Int) (h : HF) (H : Heap) (locs : List Loc) (ls : Array Slot), rng x103_6 → Hp g B s h H locs → lv_has ls 8 [(0, .ref (B + u0)), (1, .int (ii u1)), (2, .int (ii u2)), (3, .int (ii u3)), (4, .int (ii u4)), (5, .int (ii u5)), (6, .int (ii x103_6))] → j x103_6 h = some o → W p l e (rmn 3) s m args below meth c H locs 0 0 Q (F0 m 103 ls [])) ?_ (fun j103 hj103 hf => ?_)
        · intro x103_6 h H locs ls rx103_6 hp hl hf
          refine z_iconst cx dX12_isClosed_103 ?_
          exact hj104 x103_6 0 h _ _ ls rx103_6 (by decide) hp (lv_sub hl [0, 1, 2, 3, 4, 5, 6] rfl) hf
        refine z_jn hf (fun j => ∀ (x83_6 : Int) (h : HF) (H : Heap) (locs : List Loc) (ls : Array Slot), rng x83_6 → Hp g B s h H locs → lv_has ls 8 [(0, .ref (B + u0)), (1, .int (ii u1)), (2, .int (ii u2)), (3, .int (ii u3)), (4, .int (ii u4)), (5, .int (ii u5)), (6, .int (ii x83_6))] → j x83_6 h = some o → W p l e (rmn 3) s m args below meth c H locs 0 0 Q (F0 m 83 ls [])) ?_ (fun j83 hj83 hf => ?_)
        · intro x83_6 h H locs ls rx83_6 hp hl hf
          refine lv_iload cx.1 cx.2.1 dX12_isClosed_83 (lv_at hl 4 rfl) ?_
          refine z_iconst cx dX12_isClosed_85 ?_
          refine z_jn hf (fun j => ∀ (x99_6 : Int) (h : HF) (H : Heap) (locs : List Loc) (ls : Array Slot), rng x99_6 → Hp g B s h H locs → lv_has ls 8 [(0, .ref (B + u0)), (1, .int (ii u1)), (2, .int (ii u2)), (3, .int (ii u3)), (4, .int (ii u4)), (5, .int (ii u5)), (6, .int (ii x99_6))] → j x99_6 h = some o → W p l e (rmn 3) s m args below meth c H locs 0 0 Q (F0 m 99 ls [])) ?_ (fun j99 hj99 hf => ?_)
          · intro x99_6 h H locs ls rx99_6 hp hl hf
            refine z_iconst cx dX12_isClosed_99 ?_
            refine lv_goto (tgt := 104) cx.1 cx.2.1 dX12_isClosed_100 (by decide) ?_
            exact hj104 x99_6 1 h _ _ ls rx99_6 (by decide) hp (lv_sub hl [0, 1, 2, 3, 4, 5, 6] rfl) hf
          refine z_icmp_lt cx ru4 (by decide) (tgt := 99) dX12_isClosed_86 (by decide) hf (fun _ hf => ?_) (fun _ hf => ?_)
          · exact hj99 x83_6 h _ _ ls rx83_6 hp (lv_sub hl [0, 1, 2, 3, 4, 5, 6] rfl) hf
          · refine lv_iload_n cx.1 cx.2.1 dX12_isClosed_89 rfl (lv_at hl 2 rfl) ?_
            refine lv_iload cx.1 cx.2.1 dX12_isClosed_90 (lv_at hl 6 rfl) ?_
            refine z_ishr cx dX12_isClosed_92 ?_
            refine z_iconst cx dX12_isClosed_93 ?_
            refine z_iand cx dX12_isClosed_94 ?_
            refine z_iconst cx dX12_isClosed_95 ?_
            refine z_icmp_ne cx (rng_and _ _) (by decide) (tgt := 103) dX12_isClosed_96 (by decide) hf (fun _ hf => ?_) (fun _ hf => ?_)
            · exact hj99 x83_6 h _ _ ls rx83_6 hp (lv_sub hl [0, 1, 2, 3, 4, 5, 6] rfl) hf
            · exact hj103 x83_6 h _ _ ls rx83_6 hp (lv_sub hl [0, 1, 2, 3, 4, 5, 6] rfl) hf
        refine z_icmp_lt cx ru4 (by decide) (tgt := 83) dX12_isClosed_70 (by decide) hf (fun _ hf => ?_) (fun _ hf => ?_)
        · exact hj83 x64_6 h _ _ ls rx64_6 hp (lv_sub hl [0, 1, 2, 3, 4, 5, 6] rfl) hf
        · refine lv_iload_n cx.1 cx.2.1 dX12_isClosed_73 rfl (lv_at hl 2 rfl) ?_
          refine lv_iload cx.1 cx.2.1 dX12_isClosed_74 (lv_at hl 5 rfl) ?_
          refine z_ishr cx dX12_isClosed_76 ?_
          refine z_iconst cx dX12_isClosed_77 ?_
          refine z_iand cx dX12_isClosed_78 ?_
          refine z_iconst cx dX12_isClosed_79 ?_
          refine z_icmp_ne cx (rng_and _ _) (by decide) (tgt := 103) dX12_isClosed_80 (by decide) hf (fun _ hf => ?_) (fun _ hf => ?_)
          · exact hj83 x64_6 h _ _ ls rx64_6 hp (lv_sub hl [0, 1, 2, 3, 4, 5, 6] rfl) hf
          · exact hj103 x64_6 h _ _ ls rx64_6 hp (lv_sub hl [0, 1, 2, 3, 4, 5, 6] rfl) hf
      · exact hk136 u5 h _ _ ls ru5 hp (lv_sub hl [0, 1, 2, 3, 4, 5] rfl) hf
    refine z_icmp_le cx ru4 (by decide) (tgt := 63) dX12_isClosed_51 (by decide) hf (fun _ hf => ?_) (fun _ hf => ?_)
    · refine lv_aload_n cx.1 cx.2.1 dX12_isClosed_54 rfl (lv_at hl 0 rfl) ?_
      refine z_gets cx hp (T := TX12) 12 6 (u0 + 3) rfl zin_12 (by decide) (by decide) ru0 rfl fl_X12_16 dX12_isClosed_55 ?_
      refine lv_iload_n cx.1 cx.2.1 dX12_isClosed_58 rfl (lv_at hl 1 rfl) ?_
      refine z_iald cx hp (zs_12_6 u0 (kt_lt ru0 (by decide)) ru0) ru1 dX12_isClosed_59 hf (fun x7 rx7 hf => ?_)
      refine lv_goto (tgt := 64) cx.1 cx.2.1 dX12_isClosed_60 (by decide) ?_
      exact hj64 v6 x7 v6 h _ _ ls rv6 rx7 rv6 hp (lv_sub hl [0, 1, 2, 3, 4, 5, 6] rfl) hf
    · refine z_iconst cx dX12_isClosed_63 ?_
      exact hj64 v6 1 v6 h _ _ ls rv6 (by decide) rv6 hp (lv_sub hl [0, 1, 2, 3, 4, 5, 6] rfl) hf
def LX12_isClosed_23 (F : Nat) (u0 : Nat) (u1 : Int) (u2 : Int) (u3 : Int) (u4 : Int) (k142 : Int → HF → RO) (k128 : HF → RO) : Nat → Int → HF → RO
  | 0, _, _ => none
  | n + 1, v5, h =>
    zjn (fun (x40_5 : Int) (y40_0 : Int) (y40_1 : Int) (h : HF) => (
      if y40_1 < y40_0 then (
        zjn (fun (x136_5 : Int) (h : HF) => (
          zlet (wr (x136_5 + 1)) fun x4 =>
          LX12_isClosed_23 F u0 u1 u2 u3 u4 k142 k128 n x4 h
        )) fun j136 =>
        LX12_isClosed_46 F u0 u1 u2 u3 u4 x40_5 j136 k128 F 0 h
      ) else (
        k142 u3 h
      )
    )) fun j40 =>
    if 0 < u4 then (
      zrd h (u0 + 3) u1 fun x8 =>
      j40 v5 x8 v5 h
    ) else (
      j40 v5 1 v5 h
    )
set_option maxHeartbeats 4000000 in
set_option maxRecDepth 100000 in
theorem wX12_isClosed_23 {p : Program} {l : Launch} {e : Env} {s : State} {m : MethodId} {args : Array Value} {below : List Frame} {meth : Method} {c : Code} {Q : State → Prop} {g : zG} {B : Nat} {o : Int × HF} (F : Nat) (cx : Cx p s m args meth c cX12_isClosed 8 RX12 (some .boolean) g B) (u0 : Nat) (ru0 : kt u0 = 15) (u1 : Int) (ru1 : rng u1) (u2 : Int) (ru2 : rng u2) (u3 : Int) (ru3 : rng u3) (u4 : Int) (ru4 : rng u4) (k142 : Int → HF → RO) (hk142 : ∀ (x3 : Int) (h : HF) (H : Heap) (locs : List Loc) (ls : Array Slot), rng x3 → Hp g B s h H locs → lv_has ls 8 [(0, .ref (B + u0)), (1, .int (ii u1)), (2, .int (ii u2)), (3, .int (ii x3))] → k142 x3 h = some o → W p l e (rmn 3) s m args below meth c H locs 0 0 Q (F0 m 142 ls [])) (k128 : HF → RO) (hk128 : ∀  (h : HF) (H : Heap) (locs : List Loc) (ls : Array Slot), Hp g B s h H locs → lv_has ls 8 [] → k128  h = some o → W p l e (rmn 3) s m args below meth c H locs 0 0 Q (F0 m 128 ls [])) : ∀ (n : Nat) (v5 : Int) (h : HF) (H : Heap) (locs : List Loc) (ls : Array Slot), rng v5 → Hp g B s h H locs → lv_has ls 8 [(0, .ref (B + u0)), (1, .int (ii u1)), (2, .int (ii u2)), (3, .int (ii u3)), (4, .int (ii u4)), (5, .int (ii v5))] → LX12_isClosed_23 F u0 u1 u2 u3 u4 k142 k128 n v5 h = some o → W p l e (rmn 3) s m args below meth c H locs 0 0 Q (F0 m 23 ls []) := by
  intro n
  induction n with
  | zero =>
    intro v5 h H locs ls rv5 hp hl hf
    cases hf
  | succ n ih =>
    intro v5 h H locs ls rv5 hp hl hf
    rw [LX12_isClosed_23] at hf
    refine lv_iload cx.1 cx.2.1 dX12_isClosed_23 (lv_at hl 5 rfl) ?_
    refine lv_iload cx.1 cx.2.1 dX12_isClosed_25 (lv_at hl 4 rfl) ?_
    refine z_jn hf (fun j => ∀ (x40_5 : Int) (y40_0 : Int) (y40_1 : Int) (h : HF) (H : Heap) (locs : List Loc) (ls : Array Slot), rng x40_5 → rng y40_0 → rng y40_1 → Hp g B s h H locs → lv_has ls 8 [(0, .ref (B + u0)), (1, .int (ii u1)), (2, .int (ii u2)), (3, .int (ii u3)), (4, .int (ii u4)), (5, .int (ii x40_5))] → j x40_5 y40_0 y40_1 h = some o → W p l e (rmn 3) s m args below meth c H locs 0 0 Q (F0 m 40 ls [.int (ii y40_0), .int (ii y40_1)])) ?_ (fun j40 hj40 hf => ?_)
    · intro x40_5 y40_0 y40_1 h H locs ls rx40_5 ry40_0 ry40_1 hp hl hf
      refine z_icmp_ge cx ry40_1 ry40_0 (tgt := 142) dX12_isClosed_40 (by decide) hf (fun _ hf => ?_) (fun _ hf => ?_)
      · refine z_iconst cx dX12_isClosed_43 ?_
        refine lv_istore (lv' := [(6, .int (ii 0)), (0, .ref (B + u0)), (1, .int (ii u1)), (2, .int (ii u2)), (3, .int (ii u3)), (4, .int (ii u4)), (5, .int (ii x40_5))]) cx.1 cx.2.1 dX12_isClosed_44 hl (by decide) rfl (fun ls hl => ?_)
        refine z_jn hf (fun j => ∀ (x136_5 : Int) (h : HF) (H : Heap) (locs : List Loc) (ls : Array Slot), rng x136_5 → Hp g B s h H locs → lv_has ls 8 [(0, .ref (B + u0)), (1, .int (ii u1)), (2, .int (ii u2)), (3, .int (ii u3)), (4, .int (ii u4)), (5, .int (ii x136_5))] → j x136_5 h = some o → W p l e (rmn 3) s m args below meth c H locs 0 0 Q (F0 m 136 ls [])) ?_ (fun j136 hj136 hf => ?_)
        · intro x136_5 h H locs ls rx136_5 hp hl hf
          refine z_iinc cx (fun x4 => [(5, .int (ii x4)), (0, .ref (B + u0)), (1, .int (ii u1)), (2, .int (ii u2)), (3, .int (ii u3)), (4, .int (ii u4))]) dX12_isClosed_136 hl (k := 5) rfl (by decide) (fun _ => rfl) hf (fun x4 rx4 hf ls hl => ?_)
          refine lv_goto (tgt := 23) cx.1 cx.2.1 dX12_isClosed_139 (by decide) ?_
          exact ih x4 h _ _ ls rx4 hp (lv_sub hl [1, 2, 3, 4, 5, 0] rfl) hf
        exact wX12_isClosed_46 F cx u0 ru0 u1 ru1 u2 ru2 u3 ru3 u4 ru4 x40_5 rx40_5 j136 hj136 k128 hk128 F 0 h _ _ ls (by decide) hp (lv_sub hl [1, 2, 3, 4, 5, 6, 0] rfl) hf
      · exact hk142 u3 h _ _ ls ru3 hp (lv_sub hl [0, 1, 2, 3] rfl) hf
    refine z_if_le cx ru4 (tgt := 39) dX12_isClosed_27 (by decide) hf (fun _ hf => ?_) (fun _ hf => ?_)
    · refine lv_aload_n cx.1 cx.2.1 dX12_isClosed_30 rfl (lv_at hl 0 rfl) ?_
      refine z_gets cx hp (T := TX12) 12 6 (u0 + 3) rfl zin_12 (by decide) (by decide) ru0 rfl fl_X12_16 dX12_isClosed_31 ?_
      refine lv_iload_n cx.1 cx.2.1 dX12_isClosed_34 rfl (lv_at hl 1 rfl) ?_
      refine z_iald cx hp (zs_12_6 u0 (kt_lt ru0 (by decide)) ru0) ru1 dX12_isClosed_35 hf (fun x8 rx8 hf => ?_)
      refine lv_goto (tgt := 40) cx.1 cx.2.1 dX12_isClosed_36 (by decide) ?_
      exact hj40 v5 x8 v5 h _ _ ls rv5 rx8 rv5 hp (lv_sub hl [0, 1, 2, 3, 4, 5] rfl) hf
    · refine z_iconst cx dX12_isClosed_39 ?_
      exact hj40 v5 1 v5 h _ _ ls rv5 (by decide) rv5 hp (lv_sub hl [0, 1, 2, 3, 4, 5] rfl) hf
def LX12_isClosed_2 (F : Nat) (u0 : Nat) (u1 : Int) (u2 : Int) (k148 : HF → RO) (k128 : HF → RO) : Nat → Int → HF → RO
  | 0, _, _ => none
  | n + 1, v3, h =>
    zrd h (u0 + 4) u1 fun x1 =>
    if v3 < x1 then (
      zbd (fX12_arity F u0 u1 v3 h) fun r2 h =>
      zjn (fun (x142_3 : Int) (h : HF) => (
        zlet (wr (x142_3 + 1)) fun x3 =>
        LX12_isClosed_2 F u0 u1 u2 k148 k128 n x3 h
      )) fun j142 =>
      LX12_isClosed_23 F u0 u1 u2 v3 r2 j142 k128 F 0 h
    ) else (
      k148  h
    )
set_option maxHeartbeats 4000000 in
set_option maxRecDepth 100000 in
theorem wX12_isClosed_2 {p : Program} {l : Launch} {e : Env} {s : State} {m : MethodId} {args : Array Value} {below : List Frame} {meth : Method} {c : Code} {Q : State → Prop} {g : zG} {B : Nat} {o : Int × HF} (F : Nat) (cx : Cx p s m args meth c cX12_isClosed 8 RX12 (some .boolean) g B) (u0 : Nat) (ru0 : kt u0 = 15) (u1 : Int) (ru1 : rng u1) (u2 : Int) (ru2 : rng u2) (k148 : HF → RO) (hk148 : ∀  (h : HF) (H : Heap) (locs : List Loc) (ls : Array Slot), Hp g B s h H locs → lv_has ls 8 [] → k148  h = some o → W p l e (rmn 3) s m args below meth c H locs 0 0 Q (F0 m 148 ls [])) (k128 : HF → RO) (hk128 : ∀  (h : HF) (H : Heap) (locs : List Loc) (ls : Array Slot), Hp g B s h H locs → lv_has ls 8 [] → k128  h = some o → W p l e (rmn 3) s m args below meth c H locs 0 0 Q (F0 m 128 ls [])) : ∀ (n : Nat) (v3 : Int) (h : HF) (H : Heap) (locs : List Loc) (ls : Array Slot), rng v3 → Hp g B s h H locs → lv_has ls 8 [(0, .ref (B + u0)), (1, .int (ii u1)), (2, .int (ii u2)), (3, .int (ii v3))] → LX12_isClosed_2 F u0 u1 u2 k148 k128 n v3 h = some o → W p l e (rmn 3) s m args below meth c H locs 0 0 Q (F0 m 2 ls []) := by
  intro n
  induction n with
  | zero =>
    intro v3 h H locs ls rv3 hp hl hf
    cases hf
  | succ n ih =>
    intro v3 h H locs ls rv3 hp hl hf
    rw [LX12_isClosed_2] at hf
    refine lv_iload_n cx.1 cx.2.1 dX12_isClosed_2 rfl (lv_at hl 3 rfl) ?_
    refine lv_aload_n cx.1 cx.2.1 dX12_isClosed_3 rfl (lv_at hl 0 rfl) ?_
    refine z_gets cx hp (T := TX12) 12 7 (u0 + 4) rfl zin_12 (by decide) (by decide) ru0 rfl fl_X12_19 dX12_isClosed_4 ?_
    refine lv_iload_n cx.1 cx.2.1 dX12_isClosed_7 rfl (lv_at hl 1 rfl) ?_
    refine z_iald cx hp (zs_12_7 u0 (kt_lt ru0 (by decide)) ru0) ru1 dX12_isClosed_8 hf (fun x1 rx1 hf => ?_)
    refine z_icmp_ge cx rv3 rx1 (tgt := 148) dX12_isClosed_9 (by decide) hf (fun _ hf => ?_) (fun _ hf => ?_)
    · refine lv_aload_n cx.1 cx.2.1 dX12_isClosed_12 rfl (lv_at hl 0 rfl) ?_
      refine lv_iload_n cx.1 cx.2.1 dX12_isClosed_13 rfl (lv_at hl 1 rfl) ?_
      refine lv_iload_n cx.1 cx.2.1 dX12_isClosed_14 rfl (lv_at hl 3 rfl) ?_
      refine z_ci cx hp (fun o' hx => zrunV (n := 3) (As := [.int (ii u1), .int (ii v3)]) (rest := []) cx hp (mX12_arity F l g B h u0 u1 v3 ru0 ru1 rv3 o' hx) 12 ru0 (by decide) rfl vw_X12_arity ml_X12_129 (by decide) rfl hl.1 rfl (Nat.le_of_ble_eq_true rfl) dX12_isClosed_15) hf (fun r2 h H locs rr2 hp hf => ?_)
      refine lv_istore (lv' := [(4, .int (ii r2)), (0, .ref (B + u0)), (1, .int (ii u1)), (2, .int (ii u2)), (3, .int (ii v3))]) cx.1 cx.2.1 dX12_isClosed_18 hl (by decide) rfl (fun ls hl => ?_)
      refine z_iconst cx dX12_isClosed_20 ?_
      refine lv_istore (lv' := [(5, .int (ii 0)), (4, .int (ii r2)), (0, .ref (B + u0)), (1, .int (ii u1)), (2, .int (ii u2)), (3, .int (ii v3))]) cx.1 cx.2.1 dX12_isClosed_21 hl (by decide) rfl (fun ls hl => ?_)
      refine z_jn hf (fun j => ∀ (x142_3 : Int) (h : HF) (H : Heap) (locs : List Loc) (ls : Array Slot), rng x142_3 → Hp g B s h H locs → lv_has ls 8 [(0, .ref (B + u0)), (1, .int (ii u1)), (2, .int (ii u2)), (3, .int (ii x142_3))] → j x142_3 h = some o → W p l e (rmn 3) s m args below meth c H locs 0 0 Q (F0 m 142 ls [])) ?_ (fun j142 hj142 hf => ?_)
      · intro x142_3 h H locs ls rx142_3 hp hl hf
        refine z_iinc cx (fun x3 => [(3, .int (ii x3)), (0, .ref (B + u0)), (1, .int (ii u1)), (2, .int (ii u2))]) dX12_isClosed_142 hl (k := 3) rfl (by decide) (fun _ => rfl) hf (fun x3 rx3 hf ls hl => ?_)
        refine lv_goto (tgt := 2) cx.1 cx.2.1 dX12_isClosed_145 (by decide) ?_
        exact ih x3 h _ _ ls rx3 hp (lv_sub hl [1, 2, 3, 0] rfl) hf
      exact wX12_isClosed_23 F cx u0 ru0 u1 ru1 u2 ru2 v3 rv3 r2 rr2 j142 hj142 k128 hk128 F 0 h _ _ ls (by decide) hp (lv_sub hl [2, 3, 4, 5, 1, 0] rfl) hf
    · exact hk148  h _ _ ls  hp (lv_sub hl [] rfl) hf
def fX12_isClosed (F : Nat) (a0 : Nat) (a1 : Int) (a2 : Int) (h : HF) : RO :=
  zjn (fun  (h : HF) => (
    zrz 1 h
  )) fun j148 =>
  zjn (fun  (h : HF) => (
    zrz 0 h
  )) fun j128 =>
  LX12_isClosed_2 F a0 a1 a2 j148 j128 F 0 h
set_option maxHeartbeats 4000000 in
set_option maxRecDepth 100000 in
theorem mX12_isClosed (F : Nat) (l : Launch) (g : zG) (B : Nat) (h : HF) (a0 : Nat) (a1 : Int) (a2 : Int) (ra0 : kt a0 = 15) (ra1 : rng a1) (ra2 : rng a2) : CTi l g B yX12_isClosed cX12_isClosed 8 (some .boolean) 3 [.ref (B + a0), .int (ii a1), .int (ii a2)] h (fX12_isClosed F a0 a1 a2 h) := by
  refine z_enterI (by decide) rfl (Nat.le_of_ble_eq_true rfl) ?_
  intro p e s m args below meth c ls o Q cx hp hl hf hQ
  have hl : lv_has ls 8 [(0, .ref (B + a0)), (1, .int (ii a1)), (2, .int (ii a2))] := hl
  unfold fX12_isClosed at hf
  refine z_iconst cx dX12_isClosed_0 ?_
  refine lv_istore_n (lv' := [(3, .int (ii 0)), (0, .ref (B + a0)), (1, .int (ii a1)), (2, .int (ii a2))]) cx.1 cx.2.1 dX12_isClosed_1 rfl hl (by decide) rfl (fun ls hl => ?_)
  refine z_jn hf (fun j => ∀  (h : HF) (H : Heap) (locs : List Loc) (ls : Array Slot), Hp g B s h H locs → lv_has ls 8 [] → j  h = some o → W p l e (rmn 3) s m args below meth c H locs 0 0 Q (F0 m 148 ls [])) ?_ (fun j148 hj148 hf => ?_)
  · intro  h H locs ls  hp hl hf
    refine z_iconst cx dX12_isClosed_148 ?_
    rw [hQ]; exact z_zret cx hp dX12_isClosed_149 hf
  refine z_jn hf (fun j => ∀  (h : HF) (H : Heap) (locs : List Loc) (ls : Array Slot), Hp g B s h H locs → lv_has ls 8 [] → j  h = some o → W p l e (rmn 3) s m args below meth c H locs 0 0 Q (F0 m 128 ls [])) ?_ (fun j128 hj128 hf => ?_)
  · intro  h H locs ls  hp hl hf
    refine z_iconst cx dX12_isClosed_128 ?_
    rw [hQ]; exact z_zret cx hp dX12_isClosed_129 hf
  exact wX12_isClosed_2 F cx a0 ra0 a1 ra1 a2 ra2 j148 hj148 j128 hj128 F 0 h _ _ ls (by decide) hp (lv_sub hl [1, 2, 3, 0] rfl) hf
theorem dX12_span_0 : decode cX12_span 0 = .ok (.aload_n 0, 1) := by decide +kernel
theorem dX12_span_1 : decode cX12_span 1 = .ok (.iconst 0, 1) := by decide +kernel
theorem dX12_span_2 : decode cX12_span 2 = .ok (.putfield 115, 3) := by decide +kernel
theorem dX12_span_5 : decode cX12_span 5 = .ok (.aload_n 0, 1) := by decide +kernel
theorem dX12_span_6 : decode cX12_span 6 = .ok (.iload_n 1, 1) := by decide +kernel
theorem dX12_span_7 : decode cX12_span 7 = .ok (.invokevirtual 168, 3) := by decide +kernel
theorem dX12_span_10 : decode cX12_span 10 = .ok (.istore_n 3, 1) := by decide +kernel
theorem dX12_span_11 : decode cX12_span 11 = .ok (.iload_n 3, 1) := by decide +kernel
theorem dX12_span_12 : decode cX12_span 12 = .ok (.ifCond .eq 5, 3) := by decide +kernel
theorem dX12_span_15 : decode cX12_span 15 = .ok (.iload_n 3, 1) := by decide +kernel
theorem dX12_span_16 : decode cX12_span 16 = .ok (.ireturn, 1) := by decide +kernel
theorem dX12_span_17 : decode cX12_span 17 = .ok (.iload_n 2, 1) := by decide +kernel
theorem dX12_span_18 : decode cX12_span 18 = .ok (.ifCond .lt 15, 3) := by decide +kernel
theorem dX12_span_21 : decode cX12_span 21 = .ok (.iload_n 2, 1) := by decide +kernel
theorem dX12_span_22 : decode cX12_span 22 = .ok (.iconst 1, 1) := by decide +kernel
theorem dX12_span_23 : decode cX12_span 23 = .ok (.aload_n 0, 1) := by decide +kernel
theorem dX12_span_24 : decode cX12_span 24 = .ok (.getfield 16, 3) := by decide +kernel
theorem dX12_span_27 : decode cX12_span 27 = .ok (.iload_n 1, 1) := by decide +kernel
theorem dX12_span_28 : decode cX12_span 28 = .ok (.iaload, 1) := by decide +kernel
theorem dX12_span_29 : decode cX12_span 29 = .ok (.ishl, 1) := by decide +kernel
theorem dX12_span_30 : decode cX12_span 30 = .ok (.if_icmp .lt 6, 3) := by decide +kernel
theorem dX12_span_36 : decode cX12_span 36 = .ok (.iconst 1, 1) := by decide +kernel
theorem dX12_span_37 : decode cX12_span 37 = .ok (.aload_n 0, 1) := by decide +kernel
theorem dX12_span_38 : decode cX12_span 38 = .ok (.getfield 16, 3) := by decide +kernel
theorem dX12_span_41 : decode cX12_span 41 = .ok (.iload_n 1, 1) := by decide +kernel
theorem dX12_span_42 : decode cX12_span 42 = .ok (.iaload, 1) := by decide +kernel
theorem dX12_span_43 : decode cX12_span 43 = .ok (.ishl, 1) := by decide +kernel
theorem dX12_span_44 : decode cX12_span 44 = .ok (.iconst 1, 1) := by decide +kernel
theorem dX12_span_45 : decode cX12_span 45 = .ok (.isub, 1) := by decide +kernel
theorem dX12_span_46 : decode cX12_span 46 = .ok (.istore 4, 2) := by decide +kernel
theorem dX12_span_48 : decode cX12_span 48 = .ok (.iload 4, 2) := by decide +kernel
theorem dX12_span_50 : decode cX12_span 50 = .ok (.istore 5, 2) := by decide +kernel
theorem dX12_span_52 : decode cX12_span 52 = .ok (.iconst 0, 1) := by decide +kernel
theorem dX12_span_53 : decode cX12_span 53 = .ok (.istore 6, 2) := by decide +kernel
theorem dX12_span_55 : decode cX12_span 55 = .ok (.iload 6, 2) := by decide +kernel
theorem dX12_span_57 : decode cX12_span 57 = .ok (.iload 4, 2) := by decide +kernel
theorem dX12_span_59 : decode cX12_span 59 = .ok (.if_icmp .gt 34, 3) := by decide +kernel
theorem dX12_span_62 : decode cX12_span 62 = .ok (.iload 6, 2) := by decide +kernel
theorem dX12_span_64 : decode cX12_span 64 = .ok (.iload_n 2, 1) := by decide +kernel
theorem dX12_span_65 : decode cX12_span 65 = .ok (.iand, 1) := by decide +kernel
theorem dX12_span_66 : decode cX12_span 66 = .ok (.iload_n 2, 1) := by decide +kernel
theorem dX12_span_67 : decode cX12_span 67 = .ok (.if_icmp .ne 20, 3) := by decide +kernel
theorem dX12_span_70 : decode cX12_span 70 = .ok (.aload_n 0, 1) := by decide +kernel
theorem dX12_span_71 : decode cX12_span 71 = .ok (.iload_n 1, 1) := by decide +kernel
theorem dX12_span_72 : decode cX12_span 72 = .ok (.iload 6, 2) := by decide +kernel
theorem dX12_span_74 : decode cX12_span 74 = .ok (.invokevirtual 295, 3) := by decide +kernel
theorem dX12_span_77 : decode cX12_span 77 = .ok (.ifCond .eq 10, 3) := by decide +kernel
theorem dX12_span_80 : decode cX12_span 80 = .ok (.iload 5, 2) := by decide +kernel
theorem dX12_span_82 : decode cX12_span 82 = .ok (.iload 6, 2) := by decide +kernel
theorem dX12_span_84 : decode cX12_span 84 = .ok (.iand, 1) := by decide +kernel
theorem dX12_span_85 : decode cX12_span 85 = .ok (.istore 5, 2) := by decide +kernel
theorem dX12_span_87 : decode cX12_span 87 = .ok (.iinc 6 1, 3) := by decide +kernel
theorem dX12_span_90 : decode cX12_span 90 = .ok (.goto (-35), 3) := by decide +kernel
theorem dX12_span_93 : decode cX12_span 93 = .ok (.iload 5, 2) := by decide +kernel
theorem dX12_span_95 : decode cX12_span 95 = .ok (.ireturn, 1) := by decide +kernel
theorem dX12_span_33 : decode cX12_span 33 = .ok (.bipush (-3), 2) := by decide +kernel
theorem dX12_span_35 : decode cX12_span 35 = .ok (.ireturn, 1) := by decide +kernel
def LX12_span_55 (F : Nat) (u0 : Nat) (u1 : Int) (u2 : Int) (u4 : Int) (k93 : Int → HF → RO) : Nat → Int → Int → HF → RO
  | 0, _, _, _ => none
  | n + 1, v5, v6, h =>
    if u4 < v6 then (
      k93 v5 h
    ) else (
      zjn (fun (x87_5 : Int) (x87_6 : Int) (h : HF) => (
        zlet (wr (x87_6 + 1)) fun x5 =>
        LX12_span_55 F u0 u1 u2 u4 k93 n x87_5 x5 h
      )) fun j87 =>
      if wand v6 u2 = u2 then (
        zbd (fX12_isClosed F u0 u1 v6 h) fun r6 h =>
        if r6 = 0 then (
          j87 v5 v6 h
        ) else (
          zlet (wand v5 v6) fun x7 =>
          j87 x7 v6 h
        )
      ) else (
        j87 v5 v6 h
      )
    )
set_option maxHeartbeats 4000000 in
set_option maxRecDepth 100000 in
theorem wX12_span_55 {p : Program} {l : Launch} {e : Env} {s : State} {m : MethodId} {args : Array Value} {below : List Frame} {meth : Method} {c : Code} {Q : State → Prop} {g : zG} {B : Nat} {o : Int × HF} (F : Nat) (cx : Cx p s m args meth c cX12_span 7 RX12 (some .int) g B) (u0 : Nat) (ru0 : kt u0 = 15) (u1 : Int) (ru1 : rng u1) (u2 : Int) (ru2 : rng u2) (u4 : Int) (ru4 : rng u4) (k93 : Int → HF → RO) (hk93 : ∀ (x5 : Int) (h : HF) (H : Heap) (locs : List Loc) (ls : Array Slot), rng x5 → Hp g B s h H locs → lv_has ls 7 [(5, .int (ii x5))] → k93 x5 h = some o → W p l e (rmn 4) s m args below meth c H locs 0 0 Q (F0 m 93 ls [])) : ∀ (n : Nat) (v5 : Int) (v6 : Int) (h : HF) (H : Heap) (locs : List Loc) (ls : Array Slot), rng v5 → rng v6 → Hp g B s h H locs → lv_has ls 7 [(0, .ref (B + u0)), (1, .int (ii u1)), (2, .int (ii u2)), (4, .int (ii u4)), (5, .int (ii v5)), (6, .int (ii v6))] → LX12_span_55 F u0 u1 u2 u4 k93 n v5 v6 h = some o → W p l e (rmn 4) s m args below meth c H locs 0 0 Q (F0 m 55 ls []) := by
  intro n
  induction n with
  | zero =>
    intro v5 v6 h H locs ls rv5 rv6 hp hl hf
    cases hf
  | succ n ih =>
    intro v5 v6 h H locs ls rv5 rv6 hp hl hf
    rw [LX12_span_55] at hf
    refine lv_iload cx.1 cx.2.1 dX12_span_55 (lv_at hl 5 rfl) ?_
    refine lv_iload cx.1 cx.2.1 dX12_span_57 (lv_at hl 3 rfl) ?_
    refine z_icmp_gt cx rv6 ru4 (tgt := 93) dX12_span_59 (by decide) hf (fun _ hf => ?_) (fun _ hf => ?_)
    · exact hk93 v5 h _ _ ls rv5 hp (lv_sub hl [4] rfl) hf
    · refine lv_iload cx.1 cx.2.1 dX12_span_62 (lv_at hl 5 rfl) ?_
      refine lv_iload_n cx.1 cx.2.1 dX12_span_64 rfl (lv_at hl 2 rfl) ?_
      refine z_iand cx dX12_span_65 ?_
      refine lv_iload_n cx.1 cx.2.1 dX12_span_66 rfl (lv_at hl 2 rfl) ?_
      refine z_jn hf (fun j => ∀ (x87_5 : Int) (x87_6 : Int) (h : HF) (H : Heap) (locs : List Loc) (ls : Array Slot), rng x87_5 → rng x87_6 → Hp g B s h H locs → lv_has ls 7 [(0, .ref (B + u0)), (1, .int (ii u1)), (2, .int (ii u2)), (4, .int (ii u4)), (5, .int (ii x87_5)), (6, .int (ii x87_6))] → j x87_5 x87_6 h = some o → W p l e (rmn 4) s m args below meth c H locs 0 0 Q (F0 m 87 ls [])) ?_ (fun j87 hj87 hf => ?_)
      · intro x87_5 x87_6 h H locs ls rx87_5 rx87_6 hp hl hf
        refine z_iinc cx (fun x5 => [(6, .int (ii x5)), (0, .ref (B + u0)), (1, .int (ii u1)), (2, .int (ii u2)), (4, .int (ii u4)), (5, .int (ii x87_5))]) dX12_span_87 hl (k := 5) rfl (by decide) (fun _ => rfl) hf (fun x5 rx5 hf ls hl => ?_)
        refine lv_goto (tgt := 55) cx.1 cx.2.1 dX12_span_90 (by decide) ?_
        exact ih x87_5 x5 h _ _ ls rx87_5 rx5 hp (lv_sub hl [1, 2, 3, 4, 5, 0] rfl) hf
      refine z_icmp_ne cx (rng_and _ _) ru2 (tgt := 87) dX12_span_67 (by decide) hf (fun _ hf => ?_) (fun _ hf => ?_)
      · refine lv_aload_n cx.1 cx.2.1 dX12_span_70 rfl (lv_at hl 0 rfl) ?_
        refine lv_iload_n cx.1 cx.2.1 dX12_span_71 rfl (lv_at hl 1 rfl) ?_
        refine lv_iload cx.1 cx.2.1 dX12_span_72 (lv_at hl 5 rfl) ?_
        refine z_ci cx hp (fun o' hx => zrunV (n := 4) (As := [.int (ii u1), .int (ii v6)]) (rest := []) cx hp (mX12_isClosed F l g B h u0 u1 v6 ru0 ru1 rv6 o' hx) 12 ru0 (by decide) rfl vw_X12_isClosed ml_X12_295 (by decide) rfl hl.1 rfl (Nat.le_of_ble_eq_true rfl) dX12_span_74) hf (fun r6 h H locs rr6 hp hf => ?_)
        refine z_if_eq cx rr6 (tgt := 87) dX12_span_77 (by decide) hf (fun _ hf => ?_) (fun _ hf => ?_)
        · exact hj87 v5 v6 h _ _ ls rv5 rv6 hp (lv_sub hl [0, 1, 2, 3, 4, 5] rfl) hf
        · refine lv_iload cx.1 cx.2.1 dX12_span_80 (lv_at hl 4 rfl) ?_
          refine lv_iload cx.1 cx.2.1 dX12_span_82 (lv_at hl 5 rfl) ?_
          refine z_iand cx dX12_span_84 ?_
          refine z_let (rng_and _ _) hf (fun x7 rx7 hf => ?_)
          refine lv_istore (lv' := [(5, .int (ii x7)), (0, .ref (B + u0)), (1, .int (ii u1)), (2, .int (ii u2)), (4, .int (ii u4)), (6, .int (ii v6))]) cx.1 cx.2.1 dX12_span_85 hl (by decide) rfl (fun ls hl => ?_)
          exact hj87 x7 v6 h _ _ ls rx7 rv6 hp (lv_sub hl [1, 2, 3, 4, 0, 5] rfl) hf
      · exact hj87 v5 v6 h _ _ ls rv5 rv6 hp (lv_sub hl [0, 1, 2, 3, 4, 5] rfl) hf
def fX12_span (F : Nat) (a0 : Nat) (a1 : Int) (a2 : Int) (h : HF) : RO :=
  zpf h a0 0 0 fun h =>
  zbd (fX12_refuse F a0 a1 h) fun r1 h =>
  if r1 = 0 then (
    zjn (fun  (h : HF) => (
      some ((-3), h)
    )) fun j33 =>
    if a2 < 0 then (
      j33  h
    ) else (
      zrd h (a0 + 3) a1 fun x2 =>
      if a2 < wshl 1 x2 then (
        zrd h (a0 + 3) a1 fun x3 =>
        zlet (wr ((wshl 1 x3) - 1)) fun x4 =>
        zjn (fun (x93_5 : Int) (h : HF) => (
          some (x93_5, h)
        )) fun j93 =>
        LX12_span_55 F a0 a1 a2 x4 j93 F x4 0 h
      ) else (
        j33  h
      )
    )
  ) else (
    some (r1, h)
  )
set_option maxHeartbeats 4000000 in
set_option maxRecDepth 100000 in
theorem mX12_span (F : Nat) (l : Launch) (g : zG) (B : Nat) (h : HF) (a0 : Nat) (a1 : Int) (a2 : Int) (ra0 : kt a0 = 15) (ra1 : rng a1) (ra2 : rng a2) : CTi l g B yX12_span cX12_span 7 (some .int) 4 [.ref (B + a0), .int (ii a1), .int (ii a2)] h (fX12_span F a0 a1 a2 h) := by
  refine z_enterI (by decide) rfl (Nat.le_of_ble_eq_true rfl) ?_
  intro p e s m args below meth c ls o Q cx hp hl hf hQ
  have hl : lv_has ls 7 [(0, .ref (B + a0)), (1, .int (ii a1)), (2, .int (ii a2))] := hl
  unfold fX12_span at hf
  refine lv_aload_n cx.1 cx.2.1 dX12_span_0 rfl (lv_at hl 0 rfl) ?_
  refine z_iconst cx dX12_span_1 ?_
  refine z_puti cx hp (T := TX12) tyX12 tyX12_ok nmX12 12 0 (by decide) rfl zin_12 (by decide) (by decide) ra0 rfl rfl rfl fl_X12_115 dX12_span_2 hf (fun h H locs hp hf => ?_)
  refine lv_aload_n cx.1 cx.2.1 dX12_span_5 rfl (lv_at hl 0 rfl) ?_
  refine lv_iload_n cx.1 cx.2.1 dX12_span_6 rfl (lv_at hl 1 rfl) ?_
  refine z_ci cx hp (fun o' hx => zrunV (n := 4) (As := [.int (ii a1)]) (rest := []) cx hp (mX12_refuse F l g B h a0 a1 ra0 ra1 o' hx) 12 ra0 (by decide) rfl vw_X12_refuse ml_X12_168 (by decide) rfl hl.1 rfl (Nat.le_of_ble_eq_true rfl) dX12_span_7) hf (fun r1 h H locs rr1 hp hf => ?_)
  refine lv_istore_n (lv' := [(3, .int (ii r1)), (0, .ref (B + a0)), (1, .int (ii a1)), (2, .int (ii a2))]) cx.1 cx.2.1 dX12_span_10 rfl hl (by decide) rfl (fun ls hl => ?_)
  refine lv_iload_n cx.1 cx.2.1 dX12_span_11 rfl (lv_at hl 0 rfl) ?_
  refine z_if_eq cx rr1 (tgt := 17) dX12_span_12 (by decide) hf (fun _ hf => ?_) (fun _ hf => ?_)
  · refine lv_iload_n cx.1 cx.2.1 dX12_span_17 rfl (lv_at hl 3 rfl) ?_
    refine z_jn hf (fun j => ∀  (h : HF) (H : Heap) (locs : List Loc) (ls : Array Slot), Hp g B s h H locs → lv_has ls 7 [] → j  h = some o → W p l e (rmn 4) s m args below meth c H locs 0 0 Q (F0 m 33 ls [])) ?_ (fun j33 hj33 hf => ?_)
    · intro  h H locs ls  hp hl hf
      refine z_bipush cx (by decide) dX12_span_33 ?_
      rw [hQ]; exact z_iret cx hp (by decide) dX12_span_35 hf
    refine z_if_lt cx ra2 (tgt := 33) dX12_span_18 (by decide) hf (fun _ hf => ?_) (fun _ hf => ?_)
    · exact hj33  h _ _ ls  hp (lv_sub hl [] rfl) hf
    · refine lv_iload_n cx.1 cx.2.1 dX12_span_21 rfl (lv_at hl 3 rfl) ?_
      refine z_iconst cx dX12_span_22 ?_
      refine lv_aload_n cx.1 cx.2.1 dX12_span_23 rfl (lv_at hl 1 rfl) ?_
      refine z_gets cx hp (T := TX12) 12 6 (a0 + 3) rfl zin_12 (by decide) (by decide) ra0 rfl fl_X12_16 dX12_span_24 ?_
      refine lv_iload_n cx.1 cx.2.1 dX12_span_27 rfl (lv_at hl 2 rfl) ?_
      refine z_iald cx hp (zs_12_6 a0 (kt_lt ra0 (by decide)) ra0) ra1 dX12_span_28 hf (fun x2 rx2 hf => ?_)
      refine z_ishl cx dX12_span_29 ?_
      refine z_icmp_lt cx ra2 (rng_shl _ _) (tgt := 36) dX12_span_30 (by decide) hf (fun _ hf => ?_) (fun _ hf => ?_)
      · refine z_iconst cx dX12_span_36 ?_
        refine lv_aload_n cx.1 cx.2.1 dX12_span_37 rfl (lv_at hl 1 rfl) ?_
        refine z_gets cx hp (T := TX12) 12 6 (a0 + 3) rfl zin_12 (by decide) (by decide) ra0 rfl fl_X12_16 dX12_span_38 ?_
        refine lv_iload_n cx.1 cx.2.1 dX12_span_41 rfl (lv_at hl 2 rfl) ?_
        refine z_iald cx hp (zs_12_6 a0 (kt_lt ra0 (by decide)) ra0) ra1 dX12_span_42 hf (fun x3 rx3 hf => ?_)
        refine z_ishl cx dX12_span_43 ?_
        refine z_iconst cx dX12_span_44 ?_
        refine z_isub cx dX12_span_45 ?_
        refine z_let (rng_wr _) hf (fun x4 rx4 hf => ?_)
        refine lv_istore (lv' := [(4, .int (ii x4)), (3, .int (ii r1)), (0, .ref (B + a0)), (1, .int (ii a1)), (2, .int (ii a2))]) cx.1 cx.2.1 dX12_span_46 hl (by decide) rfl (fun ls hl => ?_)
        refine lv_iload cx.1 cx.2.1 dX12_span_48 (lv_at hl 0 rfl) ?_
        refine lv_istore (lv' := [(5, .int (ii x4)), (4, .int (ii x4)), (3, .int (ii r1)), (0, .ref (B + a0)), (1, .int (ii a1)), (2, .int (ii a2))]) cx.1 cx.2.1 dX12_span_50 hl (by decide) rfl (fun ls hl => ?_)
        refine z_iconst cx dX12_span_52 ?_
        refine lv_istore (lv' := [(6, .int (ii 0)), (5, .int (ii x4)), (4, .int (ii x4)), (3, .int (ii r1)), (0, .ref (B + a0)), (1, .int (ii a1)), (2, .int (ii a2))]) cx.1 cx.2.1 dX12_span_53 hl (by decide) rfl (fun ls hl => ?_)
        refine z_jn hf (fun j => ∀ (x93_5 : Int) (h : HF) (H : Heap) (locs : List Loc) (ls : Array Slot), rng x93_5 → Hp g B s h H locs → lv_has ls 7 [(5, .int (ii x93_5))] → j x93_5 h = some o → W p l e (rmn 4) s m args below meth c H locs 0 0 Q (F0 m 93 ls [])) ?_ (fun j93 hj93 hf => ?_)
        · intro x93_5 h H locs ls rx93_5 hp hl hf
          refine lv_iload cx.1 cx.2.1 dX12_span_93 (lv_at hl 0 rfl) ?_
          rw [hQ]; exact z_iret cx hp rx93_5 dX12_span_95 hf
        exact wX12_span_55 F cx a0 ra0 a1 ra1 a2 ra2 x4 rx4 j93 hj93 F x4 0 h _ _ ls rx4 (by decide) hp (lv_sub hl [4, 5, 6, 2, 1, 0] rfl) hf
      · exact hj33  h _ _ ls  hp (lv_sub hl [] rfl) hf
  · refine lv_iload_n cx.1 cx.2.1 dX12_span_15 rfl (lv_at hl 0 rfl) ?_
    rw [hQ]; exact z_iret cx hp rr1 dX12_span_16 hf
theorem dX12_partOf_0 : decode cX12_partOf 0 = .ok (.iconst 0, 1) := by decide +kernel
theorem dX12_partOf_1 : decode cX12_partOf 1 = .ok (.istore_n 3, 1) := by decide +kernel
theorem dX12_partOf_2 : decode cX12_partOf 2 = .ok (.iconst 1, 1) := by decide +kernel
theorem dX12_partOf_3 : decode cX12_partOf 3 = .ok (.istore 4, 2) := by decide +kernel
theorem dX12_partOf_5 : decode cX12_partOf 5 = .ok (.iload 4, 2) := by decide +kernel
theorem dX12_partOf_7 : decode cX12_partOf 7 = .ok (.iconst 1, 1) := by decide +kernel
theorem dX12_partOf_8 : decode cX12_partOf 8 = .ok (.aload_n 0, 1) := by decide +kernel
theorem dX12_partOf_9 : decode cX12_partOf 9 = .ok (.getfield 16, 3) := by decide +kernel
theorem dX12_partOf_12 : decode cX12_partOf 12 = .ok (.iload_n 1, 1) := by decide +kernel
theorem dX12_partOf_13 : decode cX12_partOf 13 = .ok (.iaload, 1) := by decide +kernel
theorem dX12_partOf_14 : decode cX12_partOf 14 = .ok (.ishl, 1) := by decide +kernel
theorem dX12_partOf_15 : decode cX12_partOf 15 = .ok (.if_icmp .ge 30, 3) := by decide +kernel
theorem dX12_partOf_18 : decode cX12_partOf 18 = .ok (.aload_n 0, 1) := by decide +kernel
theorem dX12_partOf_19 : decode cX12_partOf 19 = .ok (.iload_n 1, 1) := by decide +kernel
theorem dX12_partOf_20 : decode cX12_partOf 20 = .ok (.iload 4, 2) := by decide +kernel
theorem dX12_partOf_22 : decode cX12_partOf 22 = .ok (.invokevirtual 295, 3) := by decide +kernel
theorem dX12_partOf_25 : decode cX12_partOf 25 = .ok (.ifCond .eq 14, 3) := by decide +kernel
theorem dX12_partOf_28 : decode cX12_partOf 28 = .ok (.iload_n 3, 1) := by decide +kernel
theorem dX12_partOf_29 : decode cX12_partOf 29 = .ok (.iload_n 2, 1) := by decide +kernel
theorem dX12_partOf_30 : decode cX12_partOf 30 = .ok (.if_icmp .ne 6, 3) := by decide +kernel
theorem dX12_partOf_33 : decode cX12_partOf 33 = .ok (.iload 4, 2) := by decide +kernel
theorem dX12_partOf_35 : decode cX12_partOf 35 = .ok (.ireturn, 1) := by decide +kernel
theorem dX12_partOf_36 : decode cX12_partOf 36 = .ok (.iinc 3 1, 3) := by decide +kernel
theorem dX12_partOf_39 : decode cX12_partOf 39 = .ok (.iinc 4 1, 3) := by decide +kernel
theorem dX12_partOf_42 : decode cX12_partOf 42 = .ok (.goto (-37), 3) := by decide +kernel
theorem dX12_partOf_45 : decode cX12_partOf 45 = .ok (.iload_n 2, 1) := by decide +kernel
theorem dX12_partOf_46 : decode cX12_partOf 46 = .ok (.iconst (-1), 1) := by decide +kernel
theorem dX12_partOf_47 : decode cX12_partOf 47 = .ok (.if_icmp .ne 7, 3) := by decide +kernel
theorem dX12_partOf_50 : decode cX12_partOf 50 = .ok (.iload_n 3, 1) := by decide +kernel
theorem dX12_partOf_51 : decode cX12_partOf 51 = .ok (.goto 4, 3) := by decide +kernel
theorem dX12_partOf_54 : decode cX12_partOf 54 = .ok (.iconst (-1), 1) := by decide +kernel
theorem dX12_partOf_55 : decode cX12_partOf 55 = .ok (.ireturn, 1) := by decide +kernel
def LX12_partOf_5 (F : Nat) (u0 : Nat) (u1 : Int) (u2 : Int) (k45 : Int → HF → RO) (k33 : Int → HF → RO) : Nat → Int → Int → HF → RO
  | 0, _, _, _ => none
  | n + 1, v3, v4, h =>
    zrd h (u0 + 3) u1 fun x1 =>
    if v4 < wshl 1 x1 then (
      zbd (fX12_isClosed F u0 u1 v4 h) fun r2 h =>
      zjn (fun (x39_3 : Int) (x39_4 : Int) (h : HF) => (
        zlet (wr (x39_4 + 1)) fun x3 =>
        LX12_partOf_5 F u0 u1 u2 k45 k33 n x39_3 x3 h
      )) fun j39 =>
      if r2 = 0 then (
        j39 v3 v4 h
      ) else (
        if v3 = u2 then (
          k33 v4 h
        ) else (
          zlet (wr (v3 + 1)) fun x4 =>
          j39 x4 v4 h
        )
      )
    ) else (
      k45 v3 h
    )
set_option maxHeartbeats 4000000 in
set_option maxRecDepth 100000 in
theorem wX12_partOf_5 {p : Program} {l : Launch} {e : Env} {s : State} {m : MethodId} {args : Array Value} {below : List Frame} {meth : Method} {c : Code} {Q : State → Prop} {g : zG} {B : Nat} {o : Int × HF} (F : Nat) (cx : Cx p s m args meth c cX12_partOf 5 RX12 (some .int) g B) (u0 : Nat) (ru0 : kt u0 = 15) (u1 : Int) (ru1 : rng u1) (u2 : Int) (ru2 : rng u2) (k45 : Int → HF → RO) (hk45 : ∀ (x3 : Int) (h : HF) (H : Heap) (locs : List Loc) (ls : Array Slot), rng x3 → Hp g B s h H locs → lv_has ls 5 [(2, .int (ii u2)), (3, .int (ii x3))] → k45 x3 h = some o → W p l e (rmn 4) s m args below meth c H locs 0 0 Q (F0 m 45 ls [])) (k33 : Int → HF → RO) (hk33 : ∀ (x4 : Int) (h : HF) (H : Heap) (locs : List Loc) (ls : Array Slot), rng x4 → Hp g B s h H locs → lv_has ls 5 [(4, .int (ii x4))] → k33 x4 h = some o → W p l e (rmn 4) s m args below meth c H locs 0 0 Q (F0 m 33 ls [])) : ∀ (n : Nat) (v3 : Int) (v4 : Int) (h : HF) (H : Heap) (locs : List Loc) (ls : Array Slot), rng v3 → rng v4 → Hp g B s h H locs → lv_has ls 5 [(0, .ref (B + u0)), (1, .int (ii u1)), (2, .int (ii u2)), (3, .int (ii v3)), (4, .int (ii v4))] → LX12_partOf_5 F u0 u1 u2 k45 k33 n v3 v4 h = some o → W p l e (rmn 4) s m args below meth c H locs 0 0 Q (F0 m 5 ls []) := by
  intro n
  induction n with
  | zero =>
    intro v3 v4 h H locs ls rv3 rv4 hp hl hf
    cases hf
  | succ n ih =>
    intro v3 v4 h H locs ls rv3 rv4 hp hl hf
    rw [LX12_partOf_5] at hf
    refine lv_iload cx.1 cx.2.1 dX12_partOf_5 (lv_at hl 4 rfl) ?_
    refine z_iconst cx dX12_partOf_7 ?_
    refine lv_aload_n cx.1 cx.2.1 dX12_partOf_8 rfl (lv_at hl 0 rfl) ?_
    refine z_gets cx hp (T := TX12) 12 6 (u0 + 3) rfl zin_12 (by decide) (by decide) ru0 rfl fl_X12_16 dX12_partOf_9 ?_
    refine lv_iload_n cx.1 cx.2.1 dX12_partOf_12 rfl (lv_at hl 1 rfl) ?_
    refine z_iald cx hp (zs_12_6 u0 (kt_lt ru0 (by decide)) ru0) ru1 dX12_partOf_13 hf (fun x1 rx1 hf => ?_)
    refine z_ishl cx dX12_partOf_14 ?_
    refine z_icmp_ge cx rv4 (rng_shl _ _) (tgt := 45) dX12_partOf_15 (by decide) hf (fun _ hf => ?_) (fun _ hf => ?_)
    · refine lv_aload_n cx.1 cx.2.1 dX12_partOf_18 rfl (lv_at hl 0 rfl) ?_
      refine lv_iload_n cx.1 cx.2.1 dX12_partOf_19 rfl (lv_at hl 1 rfl) ?_
      refine lv_iload cx.1 cx.2.1 dX12_partOf_20 (lv_at hl 4 rfl) ?_
      refine z_ci cx hp (fun o' hx => zrunV (n := 4) (As := [.int (ii u1), .int (ii v4)]) (rest := []) cx hp (mX12_isClosed F l g B h u0 u1 v4 ru0 ru1 rv4 o' hx) 12 ru0 (by decide) rfl vw_X12_isClosed ml_X12_295 (by decide) rfl hl.1 rfl (Nat.le_of_ble_eq_true rfl) dX12_partOf_22) hf (fun r2 h H locs rr2 hp hf => ?_)
      refine z_jn hf (fun j => ∀ (x39_3 : Int) (x39_4 : Int) (h : HF) (H : Heap) (locs : List Loc) (ls : Array Slot), rng x39_3 → rng x39_4 → Hp g B s h H locs → lv_has ls 5 [(0, .ref (B + u0)), (1, .int (ii u1)), (2, .int (ii u2)), (3, .int (ii x39_3)), (4, .int (ii x39_4))] → j x39_3 x39_4 h = some o → W p l e (rmn 4) s m args below meth c H locs 0 0 Q (F0 m 39 ls [])) ?_ (fun j39 hj39 hf => ?_)
      · intro x39_3 x39_4 h H locs ls rx39_3 rx39_4 hp hl hf
        refine z_iinc cx (fun x3 => [(4, .int (ii x3)), (0, .ref (B + u0)), (1, .int (ii u1)), (2, .int (ii u2)), (3, .int (ii x39_3))]) dX12_partOf_39 hl (k := 4) rfl (by decide) (fun _ => rfl) hf (fun x3 rx3 hf ls hl => ?_)
        refine lv_goto (tgt := 5) cx.1 cx.2.1 dX12_partOf_42 (by decide) ?_
        exact ih x39_3 x3 h _ _ ls rx39_3 rx3 hp (lv_sub hl [1, 2, 3, 4, 0] rfl) hf
      refine z_if_eq cx rr2 (tgt := 39) dX12_partOf_25 (by decide) hf (fun _ hf => ?_) (fun _ hf => ?_)
      · exact hj39 v3 v4 h _ _ ls rv3 rv4 hp (lv_sub hl [0, 1, 2, 3, 4] rfl) hf
      · refine lv_iload_n cx.1 cx.2.1 dX12_partOf_28 rfl (lv_at hl 3 rfl) ?_
        refine lv_iload_n cx.1 cx.2.1 dX12_partOf_29 rfl (lv_at hl 2 rfl) ?_
        refine z_icmp_ne cx rv3 ru2 (tgt := 36) dX12_partOf_30 (by decide) hf (fun _ hf => ?_) (fun _ hf => ?_)
        · exact hk33 v4 h _ _ ls rv4 hp (lv_sub hl [4] rfl) hf
        · refine z_iinc cx (fun x4 => [(3, .int (ii x4)), (0, .ref (B + u0)), (1, .int (ii u1)), (2, .int (ii u2)), (4, .int (ii v4))]) dX12_partOf_36 hl (k := 3) rfl (by decide) (fun _ => rfl) hf (fun x4 rx4 hf ls hl => ?_)
          exact hj39 x4 v4 h _ _ ls rx4 rv4 hp (lv_sub hl [1, 2, 3, 0, 4] rfl) hf
    · exact hk45 v3 h _ _ ls rv3 hp (lv_sub hl [2, 3] rfl) hf
def fX12_partOf (F : Nat) (a0 : Nat) (a1 : Int) (a2 : Int) (h : HF) : RO :=
  zjn (fun (x45_3 : Int) (h : HF) => (
    zjn (fun (y55_0 : Int) (h : HF) => (
      some (y55_0, h)
    )) fun j55 =>
    if a2 = (-1) then (
      j55 x45_3 h
    ) else (
      j55 (-1) h
    )
  )) fun j45 =>
  zjn (fun (x33_4 : Int) (h : HF) => (
    some (x33_4, h)
  )) fun j33 =>
  LX12_partOf_5 F a0 a1 a2 j45 j33 F 0 1 h
set_option maxHeartbeats 4000000 in
set_option maxRecDepth 100000 in
theorem mX12_partOf (F : Nat) (l : Launch) (g : zG) (B : Nat) (h : HF) (a0 : Nat) (a1 : Int) (a2 : Int) (ra0 : kt a0 = 15) (ra1 : rng a1) (ra2 : rng a2) : CTi l g B yX12_partOf cX12_partOf 5 (some .int) 4 [.ref (B + a0), .int (ii a1), .int (ii a2)] h (fX12_partOf F a0 a1 a2 h) := by
  refine z_enterI (by decide) rfl (Nat.le_of_ble_eq_true rfl) ?_
  intro p e s m args below meth c ls o Q cx hp hl hf hQ
  have hl : lv_has ls 5 [(0, .ref (B + a0)), (1, .int (ii a1)), (2, .int (ii a2))] := hl
  unfold fX12_partOf at hf
  refine z_iconst cx dX12_partOf_0 ?_
  refine lv_istore_n (lv' := [(3, .int (ii 0)), (0, .ref (B + a0)), (1, .int (ii a1)), (2, .int (ii a2))]) cx.1 cx.2.1 dX12_partOf_1 rfl hl (by decide) rfl (fun ls hl => ?_)
  refine z_iconst cx dX12_partOf_2 ?_
  refine lv_istore (lv' := [(4, .int (ii 1)), (3, .int (ii 0)), (0, .ref (B + a0)), (1, .int (ii a1)), (2, .int (ii a2))]) cx.1 cx.2.1 dX12_partOf_3 hl (by decide) rfl (fun ls hl => ?_)
  refine z_jn hf (fun j => ∀ (x45_3 : Int) (h : HF) (H : Heap) (locs : List Loc) (ls : Array Slot), rng x45_3 → Hp g B s h H locs → lv_has ls 5 [(2, .int (ii a2)), (3, .int (ii x45_3))] → j x45_3 h = some o → W p l e (rmn 4) s m args below meth c H locs 0 0 Q (F0 m 45 ls [])) ?_ (fun j45 hj45 hf => ?_)
  · intro x45_3 h H locs ls rx45_3 hp hl hf
    refine lv_iload_n cx.1 cx.2.1 dX12_partOf_45 rfl (lv_at hl 0 rfl) ?_
    refine z_iconst cx dX12_partOf_46 ?_
    refine z_jn hf (fun j => ∀ (y55_0 : Int) (h : HF) (H : Heap) (locs : List Loc) (ls : Array Slot), rng y55_0 → Hp g B s h H locs → lv_has ls 5 [] → j y55_0 h = some o → W p l e (rmn 4) s m args below meth c H locs 0 0 Q (F0 m 55 ls [.int (ii y55_0)])) ?_ (fun j55 hj55 hf => ?_)
    · intro y55_0 h H locs ls ry55_0 hp hl hf
      rw [hQ]; exact z_iret cx hp ry55_0 dX12_partOf_55 hf
    refine z_icmp_ne cx ra2 (by decide) (tgt := 54) dX12_partOf_47 (by decide) hf (fun _ hf => ?_) (fun _ hf => ?_)
    · refine lv_iload_n cx.1 cx.2.1 dX12_partOf_50 rfl (lv_at hl 1 rfl) ?_
      refine lv_goto (tgt := 55) cx.1 cx.2.1 dX12_partOf_51 (by decide) ?_
      exact hj55 x45_3 h _ _ ls rx45_3 hp (lv_sub hl [] rfl) hf
    · refine z_iconst cx dX12_partOf_54 ?_
      exact hj55 (-1) h _ _ ls (by decide) hp (lv_sub hl [] rfl) hf
  refine z_jn hf (fun j => ∀ (x33_4 : Int) (h : HF) (H : Heap) (locs : List Loc) (ls : Array Slot), rng x33_4 → Hp g B s h H locs → lv_has ls 5 [(4, .int (ii x33_4))] → j x33_4 h = some o → W p l e (rmn 4) s m args below meth c H locs 0 0 Q (F0 m 33 ls [])) ?_ (fun j33 hj33 hf => ?_)
  · intro x33_4 h H locs ls rx33_4 hp hl hf
    refine lv_iload cx.1 cx.2.1 dX12_partOf_33 (lv_at hl 0 rfl) ?_
    rw [hQ]; exact z_iret cx hp rx33_4 dX12_partOf_35 hf
  exact wX12_partOf_5 F cx a0 ra0 a1 ra1 a2 ra2 j45 hj45 j33 hj33 F 0 1 h _ _ ls (by decide) (by decide) hp (lv_sub hl [2, 3, 4, 1, 0] rfl) hf
theorem dX12_part_0 : decode cX12_part 0 = .ok (.aload_n 0, 1) := by decide +kernel
theorem dX12_part_1 : decode cX12_part 1 = .ok (.iconst 0, 1) := by decide +kernel
theorem dX12_part_2 : decode cX12_part 2 = .ok (.putfield 115, 3) := by decide +kernel
theorem dX12_part_5 : decode cX12_part 5 = .ok (.aload_n 0, 1) := by decide +kernel
theorem dX12_part_6 : decode cX12_part 6 = .ok (.iload_n 1, 1) := by decide +kernel
theorem dX12_part_7 : decode cX12_part 7 = .ok (.invokevirtual 168, 3) := by decide +kernel
theorem dX12_part_10 : decode cX12_part 10 = .ok (.istore_n 3, 1) := by decide +kernel
theorem dX12_part_11 : decode cX12_part 11 = .ok (.iload_n 3, 1) := by decide +kernel
theorem dX12_part_12 : decode cX12_part 12 = .ok (.ifCond .eq 5, 3) := by decide +kernel
theorem dX12_part_15 : decode cX12_part 15 = .ok (.iload_n 3, 1) := by decide +kernel
theorem dX12_part_16 : decode cX12_part 16 = .ok (.ireturn, 1) := by decide +kernel
theorem dX12_part_17 : decode cX12_part 17 = .ok (.iload_n 2, 1) := by decide +kernel
theorem dX12_part_18 : decode cX12_part 18 = .ok (.iconst (-1), 1) := by decide +kernel
theorem dX12_part_19 : decode cX12_part 19 = .ok (.if_icmp .ge 7, 3) := by decide +kernel
theorem dX12_part_22 : decode cX12_part 22 = .ok (.iconst (-1), 1) := by decide +kernel
theorem dX12_part_23 : decode cX12_part 23 = .ok (.goto 9, 3) := by decide +kernel
theorem dX12_part_26 : decode cX12_part 26 = .ok (.aload_n 0, 1) := by decide +kernel
theorem dX12_part_27 : decode cX12_part 27 = .ok (.iload_n 1, 1) := by decide +kernel
theorem dX12_part_28 : decode cX12_part 28 = .ok (.iload_n 2, 1) := by decide +kernel
theorem dX12_part_29 : decode cX12_part 29 = .ok (.invokevirtual 298, 3) := by decide +kernel
theorem dX12_part_32 : decode cX12_part 32 = .ok (.istore 4, 2) := by decide +kernel
theorem dX12_part_34 : decode cX12_part 34 = .ok (.iload 4, 2) := by decide +kernel
theorem dX12_part_36 : decode cX12_part 36 = .ok (.iconst (-1), 1) := by decide +kernel
theorem dX12_part_37 : decode cX12_part 37 = .ok (.if_icmp .ne 8, 3) := by decide +kernel
theorem dX12_part_40 : decode cX12_part 40 = .ok (.bipush (-3), 2) := by decide +kernel
theorem dX12_part_42 : decode cX12_part 42 = .ok (.goto 5, 3) := by decide +kernel
theorem dX12_part_45 : decode cX12_part 45 = .ok (.iload 4, 2) := by decide +kernel
theorem dX12_part_47 : decode cX12_part 47 = .ok (.ireturn, 1) := by decide +kernel
def fX12_part (F : Nat) (a0 : Nat) (a1 : Int) (a2 : Int) (h : HF) : RO :=
  zpf h a0 0 0 fun h =>
  zbd (fX12_refuse F a0 a1 h) fun r1 h =>
  if r1 = 0 then (
    zjn (fun (y32_0 : Int) (h : HF) => (
      zjn (fun (y47_0 : Int) (h : HF) => (
        some (y47_0, h)
      )) fun j47 =>
      if y32_0 = (-1) then (
        j47 (-3) h
      ) else (
        j47 y32_0 h
      )
    )) fun j32 =>
    if a2 < (-1) then (
      j32 (-1) h
    ) else (
      zbd (fX12_partOf F a0 a1 a2 h) fun r2 h =>
      j32 r2 h
    )
  ) else (
    some (r1, h)
  )
set_option maxHeartbeats 4000000 in
set_option maxRecDepth 100000 in
theorem mX12_part (F : Nat) (l : Launch) (g : zG) (B : Nat) (h : HF) (a0 : Nat) (a1 : Int) (a2 : Int) (ra0 : kt a0 = 15) (ra1 : rng a1) (ra2 : rng a2) : CTi l g B yX12_part cX12_part 5 (some .int) 5 [.ref (B + a0), .int (ii a1), .int (ii a2)] h (fX12_part F a0 a1 a2 h) := by
  refine z_enterI (by decide) rfl (Nat.le_of_ble_eq_true rfl) ?_
  intro p e s m args below meth c ls o Q cx hp hl hf hQ
  have hl : lv_has ls 5 [(0, .ref (B + a0)), (1, .int (ii a1)), (2, .int (ii a2))] := hl
  unfold fX12_part at hf
  refine lv_aload_n cx.1 cx.2.1 dX12_part_0 rfl (lv_at hl 0 rfl) ?_
  refine z_iconst cx dX12_part_1 ?_
  refine z_puti cx hp (T := TX12) tyX12 tyX12_ok nmX12 12 0 (by decide) rfl zin_12 (by decide) (by decide) ra0 rfl rfl rfl fl_X12_115 dX12_part_2 hf (fun h H locs hp hf => ?_)
  refine lv_aload_n cx.1 cx.2.1 dX12_part_5 rfl (lv_at hl 0 rfl) ?_
  refine lv_iload_n cx.1 cx.2.1 dX12_part_6 rfl (lv_at hl 1 rfl) ?_
  refine z_ci cx hp (fun o' hx => zrunV (n := 5) (As := [.int (ii a1)]) (rest := []) cx hp (mX12_refuse F l g B h a0 a1 ra0 ra1 o' hx) 12 ra0 (by decide) rfl vw_X12_refuse ml_X12_168 (by decide) rfl hl.1 rfl (Nat.le_of_ble_eq_true rfl) dX12_part_7) hf (fun r1 h H locs rr1 hp hf => ?_)
  refine lv_istore_n (lv' := [(3, .int (ii r1)), (0, .ref (B + a0)), (1, .int (ii a1)), (2, .int (ii a2))]) cx.1 cx.2.1 dX12_part_10 rfl hl (by decide) rfl (fun ls hl => ?_)
  refine lv_iload_n cx.1 cx.2.1 dX12_part_11 rfl (lv_at hl 0 rfl) ?_
  refine z_if_eq cx rr1 (tgt := 17) dX12_part_12 (by decide) hf (fun _ hf => ?_) (fun _ hf => ?_)
  · refine lv_iload_n cx.1 cx.2.1 dX12_part_17 rfl (lv_at hl 3 rfl) ?_
    refine z_iconst cx dX12_part_18 ?_
    refine z_jn hf (fun j => ∀ (y32_0 : Int) (h : HF) (H : Heap) (locs : List Loc) (ls : Array Slot), rng y32_0 → Hp g B s h H locs → lv_has ls 5 [] → j y32_0 h = some o → W p l e (rmn 5) s m args below meth c H locs 0 0 Q (F0 m 32 ls [.int (ii y32_0)])) ?_ (fun j32 hj32 hf => ?_)
    · intro y32_0 h H locs ls ry32_0 hp hl hf
      refine lv_istore (lv' := [(4, .int (ii y32_0))]) cx.1 cx.2.1 dX12_part_32 hl (by decide) rfl (fun ls hl => ?_)
      refine lv_iload cx.1 cx.2.1 dX12_part_34 (lv_at hl 0 rfl) ?_
      refine z_iconst cx dX12_part_36 ?_
      refine z_jn hf (fun j => ∀ (y47_0 : Int) (h : HF) (H : Heap) (locs : List Loc) (ls : Array Slot), rng y47_0 → Hp g B s h H locs → lv_has ls 5 [] → j y47_0 h = some o → W p l e (rmn 5) s m args below meth c H locs 0 0 Q (F0 m 47 ls [.int (ii y47_0)])) ?_ (fun j47 hj47 hf => ?_)
      · intro y47_0 h H locs ls ry47_0 hp hl hf
        rw [hQ]; exact z_iret cx hp ry47_0 dX12_part_47 hf
      refine z_icmp_ne cx ry32_0 (by decide) (tgt := 45) dX12_part_37 (by decide) hf (fun _ hf => ?_) (fun _ hf => ?_)
      · refine z_bipush cx (by decide) dX12_part_40 ?_
        refine lv_goto (tgt := 47) cx.1 cx.2.1 dX12_part_42 (by decide) ?_
        exact hj47 (-3) h _ _ ls (by decide) hp (lv_sub hl [] rfl) hf
      · refine lv_iload cx.1 cx.2.1 dX12_part_45 (lv_at hl 0 rfl) ?_
        exact hj47 y32_0 h _ _ ls ry32_0 hp (lv_sub hl [] rfl) hf
    refine z_icmp_ge cx ra2 (by decide) (tgt := 26) dX12_part_19 (by decide) hf (fun _ hf => ?_) (fun _ hf => ?_)
    · refine z_iconst cx dX12_part_22 ?_
      refine lv_goto (tgt := 32) cx.1 cx.2.1 dX12_part_23 (by decide) ?_
      exact hj32 (-1) h _ _ ls (by decide) hp (lv_sub hl [] rfl) hf
    · refine lv_aload_n cx.1 cx.2.1 dX12_part_26 rfl (lv_at hl 1 rfl) ?_
      refine lv_iload_n cx.1 cx.2.1 dX12_part_27 rfl (lv_at hl 2 rfl) ?_
      refine lv_iload_n cx.1 cx.2.1 dX12_part_28 rfl (lv_at hl 3 rfl) ?_
      refine z_ci cx hp (fun o' hx => zrunV (n := 5) (As := [.int (ii a1), .int (ii a2)]) (rest := []) cx hp (mX12_partOf F l g B h a0 a1 a2 ra0 ra1 ra2 o' hx) 12 ra0 (by decide) rfl vw_X12_partOf ml_X12_298 (by decide) rfl hl.1 rfl (Nat.le_of_ble_eq_true rfl) dX12_part_29) hf (fun r2 h H locs rr2 hp hf => ?_)
      exact hj32 r2 h _ _ ls rr2 hp (lv_sub hl [] rfl) hf
  · refine lv_iload_n cx.1 cx.2.1 dX12_part_15 rfl (lv_at hl 0 rfl) ?_
    rw [hQ]; exact z_iret cx hp rr1 dX12_part_16 hf
theorem dX12_like_0 : decode cX12_like 0 = .ok (.aload_n 0, 1) := by decide +kernel
theorem dX12_like_1 : decode cX12_like 1 = .ok (.bipush 8, 2) := by decide +kernel
theorem dX12_like_3 : decode cX12_like 3 = .ok (.iload_n 2, 1) := by decide +kernel
theorem dX12_like_4 : decode cX12_like 4 = .ok (.iconst 0, 1) := by decide +kernel
theorem dX12_like_5 : decode cX12_like 5 = .ok (.invokevirtual 156, 3) := by decide +kernel
theorem dX12_like_8 : decode cX12_like 8 = .ok (.aload_n 0, 1) := by decide +kernel
theorem dX12_like_9 : decode cX12_like 9 = .ok (.getfield 19, 3) := by decide +kernel
theorem dX12_like_12 : decode cX12_like 12 = .ok (.bipush 8, 2) := by decide +kernel
theorem dX12_like_14 : decode cX12_like 14 = .ok (.aload_n 0, 1) := by decide +kernel
theorem dX12_like_15 : decode cX12_like 15 = .ok (.getfield 19, 3) := by decide +kernel
theorem dX12_like_18 : decode cX12_like 18 = .ok (.iload_n 1, 1) := by decide +kernel
theorem dX12_like_19 : decode cX12_like 19 = .ok (.iaload, 1) := by decide +kernel
theorem dX12_like_20 : decode cX12_like 20 = .ok (.iastore, 1) := by decide +kernel
theorem dX12_like_21 : decode cX12_like 21 = .ok (.iconst 0, 1) := by decide +kernel
theorem dX12_like_22 : decode cX12_like 22 = .ok (.istore_n 3, 1) := by decide +kernel
theorem dX12_like_23 : decode cX12_like 23 = .ok (.iload_n 3, 1) := by decide +kernel
theorem dX12_like_24 : decode cX12_like 24 = .ok (.iconst 4, 1) := by decide +kernel
theorem dX12_like_25 : decode cX12_like 25 = .ok (.if_icmp .ge 28, 3) := by decide +kernel
theorem dX12_like_28 : decode cX12_like 28 = .ok (.aload_n 0, 1) := by decide +kernel
theorem dX12_like_29 : decode cX12_like 29 = .ok (.getfield 22, 3) := by decide +kernel
theorem dX12_like_32 : decode cX12_like 32 = .ok (.bipush 32, 2) := by decide +kernel
theorem dX12_like_34 : decode cX12_like 34 = .ok (.iload_n 3, 1) := by decide +kernel
theorem dX12_like_35 : decode cX12_like 35 = .ok (.iadd, 1) := by decide +kernel
theorem dX12_like_36 : decode cX12_like 36 = .ok (.aload_n 0, 1) := by decide +kernel
theorem dX12_like_37 : decode cX12_like 37 = .ok (.getfield 22, 3) := by decide +kernel
theorem dX12_like_40 : decode cX12_like 40 = .ok (.iconst 4, 1) := by decide +kernel
theorem dX12_like_41 : decode cX12_like 41 = .ok (.iload_n 1, 1) := by decide +kernel
theorem dX12_like_42 : decode cX12_like 42 = .ok (.imul, 1) := by decide +kernel
theorem dX12_like_43 : decode cX12_like 43 = .ok (.iload_n 3, 1) := by decide +kernel
theorem dX12_like_44 : decode cX12_like 44 = .ok (.iadd, 1) := by decide +kernel
theorem dX12_like_45 : decode cX12_like 45 = .ok (.iaload, 1) := by decide +kernel
theorem dX12_like_46 : decode cX12_like 46 = .ok (.iastore, 1) := by decide +kernel
theorem dX12_like_47 : decode cX12_like 47 = .ok (.iinc 3 1, 3) := by decide +kernel
theorem dX12_like_50 : decode cX12_like 50 = .ok (.goto (-27), 3) := by decide +kernel
theorem dX12_like_53 : decode cX12_like 53 = .ok (.return_, 1) := by decide +kernel
def LX12_like_23 (F : Nat) (u0 : Nat) (u1 : Int) (k53 : HF → RO) : Nat → Int → HF → RO
  | 0, _, _ => none
  | n + 1, v3, h =>
    if v3 < 4 then (
      zrd h (u0 + 5) (wr ((wr (4 * u1)) + v3)) fun x3 =>
      zwr h (u0 + 5) (wr (32 + v3)) x3 fun h =>
      zlet (wr (v3 + 1)) fun x4 =>
      LX12_like_23 F u0 u1 k53 n x4 h
    ) else (
      k53  h
    )
set_option maxHeartbeats 4000000 in
set_option maxRecDepth 100000 in
theorem wX12_like_23 {p : Program} {l : Launch} {e : Env} {s : State} {m : MethodId} {args : Array Value} {below : List Frame} {meth : Method} {c : Code} {Q : State → Prop} {g : zG} {B : Nat} {o : Int × HF} (F : Nat) (cx : Cx p s m args meth c cX12_like 4 RX12 none g B) (u0 : Nat) (ru0 : kt u0 = 15) (u1 : Int) (ru1 : rng u1) (k53 : HF → RO) (hk53 : ∀  (h : HF) (H : Heap) (locs : List Loc) (ls : Array Slot), Hp g B s h H locs → lv_has ls 4 [] → k53  h = some o → W p l e (rmn 1) s m args below meth c H locs 0 0 Q (F0 m 53 ls [])) : ∀ (n : Nat) (v3 : Int) (h : HF) (H : Heap) (locs : List Loc) (ls : Array Slot), rng v3 → Hp g B s h H locs → lv_has ls 4 [(0, .ref (B + u0)), (1, .int (ii u1)), (3, .int (ii v3))] → LX12_like_23 F u0 u1 k53 n v3 h = some o → W p l e (rmn 1) s m args below meth c H locs 0 0 Q (F0 m 23 ls []) := by
  intro n
  induction n with
  | zero =>
    intro v3 h H locs ls rv3 hp hl hf
    cases hf
  | succ n ih =>
    intro v3 h H locs ls rv3 hp hl hf
    rw [LX12_like_23] at hf
    refine lv_iload_n cx.1 cx.2.1 dX12_like_23 rfl (lv_at hl 2 rfl) ?_
    refine z_iconst cx dX12_like_24 ?_
    refine z_icmp_ge cx rv3 (by decide) (tgt := 53) dX12_like_25 (by decide) hf (fun _ hf => ?_) (fun _ hf => ?_)
    · refine lv_aload_n cx.1 cx.2.1 dX12_like_28 rfl (lv_at hl 0 rfl) ?_
      refine z_gets cx hp (T := TX12) 12 8 (u0 + 5) rfl zin_12 (by decide) (by decide) ru0 rfl fl_X12_22 dX12_like_29 ?_
      refine z_bipush cx (by decide) dX12_like_32 ?_
      refine lv_iload_n cx.1 cx.2.1 dX12_like_34 rfl (lv_at hl 2 rfl) ?_
      refine z_iadd cx dX12_like_35 ?_
      refine lv_aload_n cx.1 cx.2.1 dX12_like_36 rfl (lv_at hl 0 rfl) ?_
      refine z_gets cx hp (T := TX12) 12 8 (u0 + 5) rfl zin_12 (by decide) (by decide) ru0 rfl fl_X12_22 dX12_like_37 ?_
      refine z_iconst cx dX12_like_40 ?_
      refine lv_iload_n cx.1 cx.2.1 dX12_like_41 rfl (lv_at hl 1 rfl) ?_
      refine z_imul cx dX12_like_42 ?_
      refine lv_iload_n cx.1 cx.2.1 dX12_like_43 rfl (lv_at hl 2 rfl) ?_
      refine z_iadd cx dX12_like_44 ?_
      refine z_iald cx hp (zs_12_8 u0 (kt_lt ru0 (by decide)) ru0) (rng_wr _) dX12_like_45 hf (fun x3 rx3 hf => ?_)
      refine z_iast cx hp (zs_12_8 u0 (kt_lt ru0 (by decide)) ru0) (rng_wr _) rx3 dX12_like_46 hf (fun h H locs hp hf => ?_)
      refine z_iinc cx (fun x4 => [(3, .int (ii x4)), (0, .ref (B + u0)), (1, .int (ii u1))]) dX12_like_47 hl (k := 2) rfl (by decide) (fun _ => rfl) hf (fun x4 rx4 hf ls hl => ?_)
      refine lv_goto (tgt := 23) cx.1 cx.2.1 dX12_like_50 (by decide) ?_
      exact ih x4 h _ _ ls rx4 hp (lv_sub hl [1, 2, 0] rfl) hf
    · exact hk53  h _ _ ls  hp (lv_sub hl [] rfl) hf
def fX12_like (F : Nat) (a0 : Nat) (a1 : Int) (a2 : Int) (h : HF) : RO :=
  zbd (fX12_blank F a0 8 a2 0 h) fun _ h =>
  zrd h (a0 + 4) a1 fun x2 =>
  zwr h (a0 + 4) 8 x2 fun h =>
  zjn (fun  (h : HF) => (
    some (0, h)
  )) fun j53 =>
  LX12_like_23 F a0 a1 j53 F 0 h
set_option maxHeartbeats 4000000 in
set_option maxRecDepth 100000 in
theorem mX12_like (F : Nat) (l : Launch) (g : zG) (B : Nat) (h : HF) (a0 : Nat) (a1 : Int) (a2 : Int) (ra0 : kt a0 = 15) (ra1 : rng a1) (ra2 : rng a2) : CTv l g B yX12_like cX12_like 4 1 [.ref (B + a0), .int (ii a1), .int (ii a2)] h (fX12_like F a0 a1 a2 h) := by
  refine z_enterV (by decide) rfl (Nat.le_of_ble_eq_true rfl) ?_
  intro p e s m args below meth c ls o Q cx hp hl hf hQ
  have hl : lv_has ls 4 [(0, .ref (B + a0)), (1, .int (ii a1)), (2, .int (ii a2))] := hl
  unfold fX12_like at hf
  refine lv_aload_n cx.1 cx.2.1 dX12_like_0 rfl (lv_at hl 0 rfl) ?_
  refine z_bipush cx (by decide) dX12_like_1 ?_
  refine lv_iload_n cx.1 cx.2.1 dX12_like_3 rfl (lv_at hl 2 rfl) ?_
  refine z_iconst cx dX12_like_4 ?_
  refine z_cv cx hp (fun o' hx => zrunV (n := 1) (As := [.int (ii 8), .int (ii a2), .int (ii 0)]) (rest := []) cx hp (mX12_blank F l g B h a0 8 a2 0 ra0 (by decide) ra2 (by decide) o' hx) 12 ra0 (by decide) rfl vw_X12_blank ml_X12_156 (by decide) rfl hl.1 rfl (Nat.le_of_ble_eq_true rfl) dX12_like_5) hf (fun _ h H locs hp hf => ?_)
  refine lv_aload_n cx.1 cx.2.1 dX12_like_8 rfl (lv_at hl 0 rfl) ?_
  refine z_gets cx hp (T := TX12) 12 7 (a0 + 4) rfl zin_12 (by decide) (by decide) ra0 rfl fl_X12_19 dX12_like_9 ?_
  refine z_bipush cx (by decide) dX12_like_12 ?_
  refine lv_aload_n cx.1 cx.2.1 dX12_like_14 rfl (lv_at hl 0 rfl) ?_
  refine z_gets cx hp (T := TX12) 12 7 (a0 + 4) rfl zin_12 (by decide) (by decide) ra0 rfl fl_X12_19 dX12_like_15 ?_
  refine lv_iload_n cx.1 cx.2.1 dX12_like_18 rfl (lv_at hl 1 rfl) ?_
  refine z_iald cx hp (zs_12_7 a0 (kt_lt ra0 (by decide)) ra0) ra1 dX12_like_19 hf (fun x2 rx2 hf => ?_)
  refine z_iast cx hp (zs_12_7 a0 (kt_lt ra0 (by decide)) ra0) (by decide) rx2 dX12_like_20 hf (fun h H locs hp hf => ?_)
  refine z_iconst cx dX12_like_21 ?_
  refine lv_istore_n (lv' := [(3, .int (ii 0)), (0, .ref (B + a0)), (1, .int (ii a1)), (2, .int (ii a2))]) cx.1 cx.2.1 dX12_like_22 rfl hl (by decide) rfl (fun ls hl => ?_)
  refine z_jn hf (fun j => ∀  (h : HF) (H : Heap) (locs : List Loc) (ls : Array Slot), Hp g B s h H locs → lv_has ls 4 [] → j  h = some o → W p l e (rmn 1) s m args below meth c H locs 0 0 Q (F0 m 53 ls [])) ?_ (fun j53 hj53 hf => ?_)
  · intro  h H locs ls  hp hl hf
    rw [hQ]; exact z_vret cx hp dX12_like_53 hf
  exact wX12_like_23 F cx a0 ra0 a1 ra1 j53 hj53 F 0 h _ _ ls (by decide) hp (lv_sub hl [1, 2, 0] rfl) hf
theorem dX12_setAt_0 : decode cX12_setAt 0 = .ok (.aload_n 0, 1) := by decide +kernel
theorem dX12_setAt_1 : decode cX12_setAt 1 = .ok (.getfield 25, 3) := by decide +kernel
theorem dX12_setAt_4 : decode cX12_setAt 4 = .ok (.aload_n 0, 1) := by decide +kernel
theorem dX12_setAt_5 : decode cX12_setAt 5 = .ok (.iload_n 1, 1) := by decide +kernel
theorem dX12_setAt_6 : decode cX12_setAt 6 = .ok (.iload_n 2, 1) := by decide +kernel
theorem dX12_setAt_7 : decode cX12_setAt 7 = .ok (.iload_n 3, 1) := by decide +kernel
theorem dX12_setAt_8 : decode cX12_setAt 8 = .ok (.iload 4, 2) := by decide +kernel
theorem dX12_setAt_10 : decode cX12_setAt 10 = .ok (.invokevirtual 136, 3) := by decide +kernel
theorem dX12_setAt_13 : decode cX12_setAt 13 = .ok (.iload 5, 2) := by decide +kernel
theorem dX12_setAt_15 : decode cX12_setAt 15 = .ok (.iastore, 1) := by decide +kernel
theorem dX12_setAt_16 : decode cX12_setAt 16 = .ok (.return_, 1) := by decide +kernel
def fX12_setAt (F : Nat) (a0 : Nat) (a1 : Int) (a2 : Int) (a3 : Int) (a4 : Int) (a5 : Int) (h : HF) : RO :=
  zbd (fX12_at F a0 a1 a2 a3 a4 h) fun r1 h =>
  zwr h (a0 + 6) r1 a5 fun h =>
  some (0, h)
set_option maxHeartbeats 4000000 in
set_option maxRecDepth 100000 in
theorem mX12_setAt (F : Nat) (l : Launch) (g : zG) (B : Nat) (h : HF) (a0 : Nat) (a1 : Int) (a2 : Int) (a3 : Int) (a4 : Int) (a5 : Int) (ra0 : kt a0 = 15) (ra1 : rng a1) (ra2 : rng a2) (ra3 : rng a3) (ra4 : rng a4) (ra5 : rng a5) : CTv l g B yX12_setAt cX12_setAt 6 2 [.ref (B + a0), .int (ii a1), .int (ii a2), .int (ii a3), .int (ii a4), .int (ii a5)] h (fX12_setAt F a0 a1 a2 a3 a4 a5 h) := by
  refine z_enterV (by decide) rfl (Nat.le_of_ble_eq_true rfl) ?_
  intro p e s m args below meth c ls o Q cx hp hl hf hQ
  have hl : lv_has ls 6 [(0, .ref (B + a0)), (1, .int (ii a1)), (2, .int (ii a2)), (3, .int (ii a3)), (4, .int (ii a4)), (5, .int (ii a5))] := hl
  unfold fX12_setAt at hf
  refine lv_aload_n cx.1 cx.2.1 dX12_setAt_0 rfl (lv_at hl 0 rfl) ?_
  refine z_gets cx hp (T := TX12) 12 9 (a0 + 6) rfl zin_12 (by decide) (by decide) ra0 rfl fl_X12_25 dX12_setAt_1 ?_
  refine lv_aload_n cx.1 cx.2.1 dX12_setAt_4 rfl (lv_at hl 0 rfl) ?_
  refine lv_iload_n cx.1 cx.2.1 dX12_setAt_5 rfl (lv_at hl 1 rfl) ?_
  refine lv_iload_n cx.1 cx.2.1 dX12_setAt_6 rfl (lv_at hl 2 rfl) ?_
  refine lv_iload_n cx.1 cx.2.1 dX12_setAt_7 rfl (lv_at hl 3 rfl) ?_
  refine lv_iload cx.1 cx.2.1 dX12_setAt_8 (lv_at hl 4 rfl) ?_
  refine z_ci cx hp (fun o' hx => zrunV (n := 2) (As := [.int (ii a1), .int (ii a2), .int (ii a3), .int (ii a4)]) (rest := [.ref (B + (a0 + 6))]) cx hp (mX12_at F l g B h a0 a1 a2 a3 a4 ra0 ra1 ra2 ra3 ra4 o' hx) 12 ra0 (by decide) rfl vw_X12_at ml_X12_136 (by decide) rfl hl.1 rfl (Nat.le_of_ble_eq_true rfl) dX12_setAt_10) hf (fun r1 h H locs rr1 hp hf => ?_)
  refine lv_iload cx.1 cx.2.1 dX12_setAt_13 (lv_at hl 5 rfl) ?_
  refine z_iast cx hp (zs_12_9 a0 (kt_lt ra0 (by decide)) ra0) rr1 ra5 dX12_setAt_15 hf (fun h H locs hp hf => ?_)
  rw [hQ]; exact z_vret cx hp dX12_setAt_16 hf
theorem dX12_upTo_0 : decode cX12_upTo 0 = .ok (.aload_n 0, 1) := by decide +kernel
theorem dX12_upTo_1 : decode cX12_upTo 1 = .ok (.iload_n 1, 1) := by decide +kernel
theorem dX12_upTo_2 : decode cX12_upTo 2 = .ok (.iload_n 2, 1) := by decide +kernel
theorem dX12_upTo_3 : decode cX12_upTo 3 = .ok (.invokevirtual 129, 3) := by decide +kernel
theorem dX12_upTo_6 : decode cX12_upTo 6 = .ok (.iload_n 3, 1) := by decide +kernel
theorem dX12_upTo_7 : decode cX12_upTo 7 = .ok (.if_icmp .le 12, 3) := by decide +kernel
theorem dX12_upTo_10 : decode cX12_upTo 10 = .ok (.aload_n 0, 1) := by decide +kernel
theorem dX12_upTo_11 : decode cX12_upTo 11 = .ok (.getfield 16, 3) := by decide +kernel
theorem dX12_upTo_14 : decode cX12_upTo 14 = .ok (.iload_n 1, 1) := by decide +kernel
theorem dX12_upTo_15 : decode cX12_upTo 15 = .ok (.iaload, 1) := by decide +kernel
theorem dX12_upTo_16 : decode cX12_upTo 16 = .ok (.goto 4, 3) := by decide +kernel
theorem dX12_upTo_19 : decode cX12_upTo 19 = .ok (.iconst 1, 1) := by decide +kernel
theorem dX12_upTo_20 : decode cX12_upTo 20 = .ok (.ireturn, 1) := by decide +kernel
def fX12_upTo (F : Nat) (a0 : Nat) (a1 : Int) (a2 : Int) (a3 : Int) (h : HF) : RO :=
  zbd (fX12_arity F a0 a1 a2 h) fun r1 h =>
  zjn (fun (y20_0 : Int) (h : HF) => (
    some (y20_0, h)
  )) fun j20 =>
  if a3 < r1 then (
    zrd h (a0 + 3) a1 fun x2 =>
    j20 x2 h
  ) else (
    j20 1 h
  )
set_option maxHeartbeats 4000000 in
set_option maxRecDepth 100000 in
theorem mX12_upTo (F : Nat) (l : Launch) (g : zG) (B : Nat) (h : HF) (a0 : Nat) (a1 : Int) (a2 : Int) (a3 : Int) (ra0 : kt a0 = 15) (ra1 : rng a1) (ra2 : rng a2) (ra3 : rng a3) : CTi l g B yX12_upTo cX12_upTo 4 (some .int) 1 [.ref (B + a0), .int (ii a1), .int (ii a2), .int (ii a3)] h (fX12_upTo F a0 a1 a2 a3 h) := by
  refine z_enterI (by decide) rfl (Nat.le_of_ble_eq_true rfl) ?_
  intro p e s m args below meth c ls o Q cx hp hl hf hQ
  have hl : lv_has ls 4 [(0, .ref (B + a0)), (1, .int (ii a1)), (2, .int (ii a2)), (3, .int (ii a3))] := hl
  unfold fX12_upTo at hf
  refine lv_aload_n cx.1 cx.2.1 dX12_upTo_0 rfl (lv_at hl 0 rfl) ?_
  refine lv_iload_n cx.1 cx.2.1 dX12_upTo_1 rfl (lv_at hl 1 rfl) ?_
  refine lv_iload_n cx.1 cx.2.1 dX12_upTo_2 rfl (lv_at hl 2 rfl) ?_
  refine z_ci cx hp (fun o' hx => zrunV (n := 1) (As := [.int (ii a1), .int (ii a2)]) (rest := []) cx hp (mX12_arity F l g B h a0 a1 a2 ra0 ra1 ra2 o' hx) 12 ra0 (by decide) rfl vw_X12_arity ml_X12_129 (by decide) rfl hl.1 rfl (Nat.le_of_ble_eq_true rfl) dX12_upTo_3) hf (fun r1 h H locs rr1 hp hf => ?_)
  refine lv_iload_n cx.1 cx.2.1 dX12_upTo_6 rfl (lv_at hl 3 rfl) ?_
  refine z_jn hf (fun j => ∀ (y20_0 : Int) (h : HF) (H : Heap) (locs : List Loc) (ls : Array Slot), rng y20_0 → Hp g B s h H locs → lv_has ls 4 [] → j y20_0 h = some o → W p l e (rmn 1) s m args below meth c H locs 0 0 Q (F0 m 20 ls [.int (ii y20_0)])) ?_ (fun j20 hj20 hf => ?_)
  · intro y20_0 h H locs ls ry20_0 hp hl hf
    rw [hQ]; exact z_iret cx hp ry20_0 dX12_upTo_20 hf
  refine z_icmp_le cx rr1 ra3 (tgt := 19) dX12_upTo_7 (by decide) hf (fun _ hf => ?_) (fun _ hf => ?_)
  · refine lv_aload_n cx.1 cx.2.1 dX12_upTo_10 rfl (lv_at hl 0 rfl) ?_
    refine z_gets cx hp (T := TX12) 12 6 (a0 + 3) rfl zin_12 (by decide) (by decide) ra0 rfl fl_X12_16 dX12_upTo_11 ?_
    refine lv_iload_n cx.1 cx.2.1 dX12_upTo_14 rfl (lv_at hl 1 rfl) ?_
    refine z_iald cx hp (zs_12_6 a0 (kt_lt ra0 (by decide)) ra0) ra1 dX12_upTo_15 hf (fun x2 rx2 hf => ?_)
    refine lv_goto (tgt := 20) cx.1 cx.2.1 dX12_upTo_16 (by decide) ?_
    exact hj20 x2 h _ _ ls rx2 hp (lv_sub hl [] rfl) hf
  · refine z_iconst cx dX12_upTo_19 ?_
    exact hj20 1 h _ _ ls (by decide) hp (lv_sub hl [] rfl) hf
theorem dX12_sub_0 : decode cX12_sub 0 = .ok (.aload_n 0, 1) := by decide +kernel
theorem dX12_sub_1 : decode cX12_sub 1 = .ok (.iconst 0, 1) := by decide +kernel
theorem dX12_sub_2 : decode cX12_sub 2 = .ok (.putfield 115, 3) := by decide +kernel
theorem dX12_sub_5 : decode cX12_sub 5 = .ok (.aload_n 0, 1) := by decide +kernel
theorem dX12_sub_6 : decode cX12_sub 6 = .ok (.iload_n 1, 1) := by decide +kernel
theorem dX12_sub_7 : decode cX12_sub 7 = .ok (.invokevirtual 146, 3) := by decide +kernel
theorem dX12_sub_10 : decode cX12_sub 10 = .ok (.ifCond .eq 11, 3) := by decide +kernel
theorem dX12_sub_13 : decode cX12_sub 13 = .ok (.aload_n 0, 1) := by decide +kernel
theorem dX12_sub_14 : decode cX12_sub 14 = .ok (.iload_n 3, 1) := by decide +kernel
theorem dX12_sub_15 : decode cX12_sub 15 = .ok (.invokevirtual 146, 3) := by decide +kernel
theorem dX12_sub_18 : decode cX12_sub 18 = .ok (.ifCond .ne 6, 3) := by decide +kernel
theorem dX12_sub_24 : decode cX12_sub 24 = .ok (.aload_n 0, 1) := by decide +kernel
theorem dX12_sub_25 : decode cX12_sub 25 = .ok (.getfield 16, 3) := by decide +kernel
theorem dX12_sub_28 : decode cX12_sub 28 = .ok (.iload_n 1, 1) := by decide +kernel
theorem dX12_sub_29 : decode cX12_sub 29 = .ok (.iaload, 1) := by decide +kernel
theorem dX12_sub_30 : decode cX12_sub 30 = .ok (.ifCond .ne 6, 3) := by decide +kernel
theorem dX12_sub_33 : decode cX12_sub 33 = .ok (.bipush (-2), 2) := by decide +kernel
theorem dX12_sub_35 : decode cX12_sub 35 = .ok (.ireturn, 1) := by decide +kernel
theorem dX12_sub_36 : decode cX12_sub 36 = .ok (.iload_n 2, 1) := by decide +kernel
theorem dX12_sub_37 : decode cX12_sub 37 = .ok (.ifCond .ge 7, 3) := by decide +kernel
theorem dX12_sub_40 : decode cX12_sub 40 = .ok (.iconst (-1), 1) := by decide +kernel
theorem dX12_sub_41 : decode cX12_sub 41 = .ok (.goto 9, 3) := by decide +kernel
theorem dX12_sub_44 : decode cX12_sub 44 = .ok (.aload_n 0, 1) := by decide +kernel
theorem dX12_sub_45 : decode cX12_sub 45 = .ok (.iload_n 1, 1) := by decide +kernel
theorem dX12_sub_46 : decode cX12_sub 46 = .ok (.iload_n 2, 1) := by decide +kernel
theorem dX12_sub_47 : decode cX12_sub 47 = .ok (.invokevirtual 298, 3) := by decide +kernel
theorem dX12_sub_50 : decode cX12_sub 50 = .ok (.istore 4, 2) := by decide +kernel
theorem dX12_sub_52 : decode cX12_sub 52 = .ok (.iload 4, 2) := by decide +kernel
theorem dX12_sub_54 : decode cX12_sub 54 = .ok (.iconst (-1), 1) := by decide +kernel
theorem dX12_sub_55 : decode cX12_sub 55 = .ok (.if_icmp .ne 6, 3) := by decide +kernel
theorem dX12_sub_58 : decode cX12_sub 58 = .ok (.bipush (-3), 2) := by decide +kernel
theorem dX12_sub_60 : decode cX12_sub 60 = .ok (.ireturn, 1) := by decide +kernel
theorem dX12_sub_61 : decode cX12_sub 61 = .ok (.iconst 0, 1) := by decide +kernel
theorem dX12_sub_62 : decode cX12_sub 62 = .ok (.istore 5, 2) := by decide +kernel
theorem dX12_sub_64 : decode cX12_sub 64 = .ok (.iconst 0, 1) := by decide +kernel
theorem dX12_sub_65 : decode cX12_sub 65 = .ok (.istore 6, 2) := by decide +kernel
theorem dX12_sub_67 : decode cX12_sub 67 = .ok (.iload 6, 2) := by decide +kernel
theorem dX12_sub_69 : decode cX12_sub 69 = .ok (.aload_n 0, 1) := by decide +kernel
theorem dX12_sub_70 : decode cX12_sub 70 = .ok (.getfield 16, 3) := by decide +kernel
theorem dX12_sub_73 : decode cX12_sub 73 = .ok (.iload_n 1, 1) := by decide +kernel
theorem dX12_sub_74 : decode cX12_sub 74 = .ok (.iaload, 1) := by decide +kernel
theorem dX12_sub_75 : decode cX12_sub 75 = .ok (.if_icmp .ge 32, 3) := by decide +kernel
theorem dX12_sub_78 : decode cX12_sub 78 = .ok (.iload 4, 2) := by decide +kernel
theorem dX12_sub_80 : decode cX12_sub 80 = .ok (.iload 6, 2) := by decide +kernel
theorem dX12_sub_82 : decode cX12_sub 82 = .ok (.ishr, 1) := by decide +kernel
theorem dX12_sub_83 : decode cX12_sub 83 = .ok (.iconst 1, 1) := by decide +kernel
theorem dX12_sub_84 : decode cX12_sub 84 = .ok (.iand, 1) := by decide +kernel
theorem dX12_sub_85 : decode cX12_sub 85 = .ok (.iconst 1, 1) := by decide +kernel
theorem dX12_sub_86 : decode cX12_sub 86 = .ok (.if_icmp .ne 15, 3) := by decide +kernel
theorem dX12_sub_89 : decode cX12_sub 89 = .ok (.aload_n 0, 1) := by decide +kernel
theorem dX12_sub_90 : decode cX12_sub 90 = .ok (.getfield 82, 3) := by decide +kernel
theorem dX12_sub_93 : decode cX12_sub 93 = .ok (.iload 6, 2) := by decide +kernel
theorem dX12_sub_95 : decode cX12_sub 95 = .ok (.iload 5, 2) := by decide +kernel
theorem dX12_sub_97 : decode cX12_sub 97 = .ok (.iastore, 1) := by decide +kernel
theorem dX12_sub_98 : decode cX12_sub 98 = .ok (.iinc 5 1, 3) := by decide +kernel
theorem dX12_sub_101 : decode cX12_sub 101 = .ok (.iinc 6 1, 3) := by decide +kernel
theorem dX12_sub_104 : decode cX12_sub 104 = .ok (.goto (-37), 3) := by decide +kernel
theorem dX12_sub_107 : decode cX12_sub 107 = .ok (.aload_n 0, 1) := by decide +kernel
theorem dX12_sub_108 : decode cX12_sub 108 = .ok (.iload_n 1, 1) := by decide +kernel
theorem dX12_sub_109 : decode cX12_sub 109 = .ok (.iload 5, 2) := by decide +kernel
theorem dX12_sub_111 : decode cX12_sub 111 = .ok (.invokevirtual 301, 3) := by decide +kernel
theorem dX12_sub_114 : decode cX12_sub 114 = .ok (.iconst 0, 1) := by decide +kernel
theorem dX12_sub_115 : decode cX12_sub 115 = .ok (.istore 6, 2) := by decide +kernel
theorem dX12_sub_117 : decode cX12_sub 117 = .ok (.iload 6, 2) := by decide +kernel
theorem dX12_sub_119 : decode cX12_sub 119 = .ok (.aload_n 0, 1) := by decide +kernel
theorem dX12_sub_120 : decode cX12_sub 120 = .ok (.getfield 19, 3) := by decide +kernel
theorem dX12_sub_123 : decode cX12_sub 123 = .ok (.iload_n 1, 1) := by decide +kernel
theorem dX12_sub_124 : decode cX12_sub 124 = .ok (.iaload, 1) := by decide +kernel
theorem dX12_sub_125 : decode cX12_sub 125 = .ok (.if_icmp .ge 147, 3) := by decide +kernel
theorem dX12_sub_128 : decode cX12_sub 128 = .ok (.iconst 0, 1) := by decide +kernel
theorem dX12_sub_129 : decode cX12_sub 129 = .ok (.istore 7, 2) := by decide +kernel
theorem dX12_sub_131 : decode cX12_sub 131 = .ok (.iload 7, 2) := by decide +kernel
theorem dX12_sub_133 : decode cX12_sub 133 = .ok (.aload_n 0, 1) := by decide +kernel
theorem dX12_sub_134 : decode cX12_sub 134 = .ok (.iload_n 1, 1) := by decide +kernel
theorem dX12_sub_135 : decode cX12_sub 135 = .ok (.iload 6, 2) := by decide +kernel
theorem dX12_sub_137 : decode cX12_sub 137 = .ok (.iconst 0, 1) := by decide +kernel
theorem dX12_sub_138 : decode cX12_sub 138 = .ok (.invokevirtual 304, 3) := by decide +kernel
theorem dX12_sub_141 : decode cX12_sub 141 = .ok (.if_icmp .ge 125, 3) := by decide +kernel
theorem dX12_sub_144 : decode cX12_sub 144 = .ok (.iconst 0, 1) := by decide +kernel
theorem dX12_sub_145 : decode cX12_sub 145 = .ok (.istore 8, 2) := by decide +kernel
theorem dX12_sub_147 : decode cX12_sub 147 = .ok (.iload 8, 2) := by decide +kernel
theorem dX12_sub_149 : decode cX12_sub 149 = .ok (.aload_n 0, 1) := by decide +kernel
theorem dX12_sub_150 : decode cX12_sub 150 = .ok (.iload_n 1, 1) := by decide +kernel
theorem dX12_sub_151 : decode cX12_sub 151 = .ok (.iload 6, 2) := by decide +kernel
theorem dX12_sub_153 : decode cX12_sub 153 = .ok (.iconst 1, 1) := by decide +kernel
theorem dX12_sub_154 : decode cX12_sub 154 = .ok (.invokevirtual 304, 3) := by decide +kernel
theorem dX12_sub_157 : decode cX12_sub 157 = .ok (.if_icmp .ge 103, 3) := by decide +kernel
theorem dX12_sub_160 : decode cX12_sub 160 = .ok (.aload_n 0, 1) := by decide +kernel
theorem dX12_sub_161 : decode cX12_sub 161 = .ok (.iload_n 1, 1) := by decide +kernel
theorem dX12_sub_162 : decode cX12_sub 162 = .ok (.iload 6, 2) := by decide +kernel
theorem dX12_sub_164 : decode cX12_sub 164 = .ok (.invokevirtual 129, 3) := by decide +kernel
theorem dX12_sub_167 : decode cX12_sub 167 = .ok (.iconst 1, 1) := by decide +kernel
theorem dX12_sub_168 : decode cX12_sub 168 = .ok (.if_icmp .lt 14, 3) := by decide +kernel
theorem dX12_sub_171 : decode cX12_sub 171 = .ok (.iload 4, 2) := by decide +kernel
theorem dX12_sub_173 : decode cX12_sub 173 = .ok (.iload 7, 2) := by decide +kernel
theorem dX12_sub_175 : decode cX12_sub 175 = .ok (.ishr, 1) := by decide +kernel
theorem dX12_sub_176 : decode cX12_sub 176 = .ok (.iconst 1, 1) := by decide +kernel
theorem dX12_sub_177 : decode cX12_sub 177 = .ok (.iand, 1) := by decide +kernel
theorem dX12_sub_178 : decode cX12_sub 178 = .ok (.iconst 1, 1) := by decide +kernel
theorem dX12_sub_179 : decode cX12_sub 179 = .ok (.if_icmp .ne 29, 3) := by decide +kernel
theorem dX12_sub_182 : decode cX12_sub 182 = .ok (.aload_n 0, 1) := by decide +kernel
theorem dX12_sub_183 : decode cX12_sub 183 = .ok (.iload_n 1, 1) := by decide +kernel
theorem dX12_sub_184 : decode cX12_sub 184 = .ok (.iload 6, 2) := by decide +kernel
theorem dX12_sub_186 : decode cX12_sub 186 = .ok (.invokevirtual 129, 3) := by decide +kernel
theorem dX12_sub_189 : decode cX12_sub 189 = .ok (.iconst 2, 1) := by decide +kernel
theorem dX12_sub_190 : decode cX12_sub 190 = .ok (.if_icmp .lt 14, 3) := by decide +kernel
theorem dX12_sub_193 : decode cX12_sub 193 = .ok (.iload 4, 2) := by decide +kernel
theorem dX12_sub_195 : decode cX12_sub 195 = .ok (.iload 8, 2) := by decide +kernel
theorem dX12_sub_197 : decode cX12_sub 197 = .ok (.ishr, 1) := by decide +kernel
theorem dX12_sub_198 : decode cX12_sub 198 = .ok (.iconst 1, 1) := by decide +kernel
theorem dX12_sub_199 : decode cX12_sub 199 = .ok (.iand, 1) := by decide +kernel
theorem dX12_sub_200 : decode cX12_sub 200 = .ok (.iconst 1, 1) := by decide +kernel
theorem dX12_sub_201 : decode cX12_sub 201 = .ok (.if_icmp .ne 7, 3) := by decide +kernel
theorem dX12_sub_208 : decode cX12_sub 208 = .ok (.iconst 0, 1) := by decide +kernel
theorem dX12_sub_204 : decode cX12_sub 204 = .ok (.iconst 1, 1) := by decide +kernel
theorem dX12_sub_205 : decode cX12_sub 205 = .ok (.goto 4, 3) := by decide +kernel
theorem dX12_sub_209 : decode cX12_sub 209 = .ok (.istore 9, 2) := by decide +kernel
theorem dX12_sub_211 : decode cX12_sub 211 = .ok (.iload 9, 2) := by decide +kernel
theorem dX12_sub_213 : decode cX12_sub 213 = .ok (.ifCond .eq 41, 3) := by decide +kernel
theorem dX12_sub_216 : decode cX12_sub 216 = .ok (.aload_n 0, 1) := by decide +kernel
theorem dX12_sub_217 : decode cX12_sub 217 = .ok (.bipush 8, 2) := by decide +kernel
theorem dX12_sub_219 : decode cX12_sub 219 = .ok (.iload 6, 2) := by decide +kernel
theorem dX12_sub_221 : decode cX12_sub 221 = .ok (.aload_n 0, 1) := by decide +kernel
theorem dX12_sub_222 : decode cX12_sub 222 = .ok (.getfield 82, 3) := by decide +kernel
theorem dX12_sub_225 : decode cX12_sub 225 = .ok (.iload 7, 2) := by decide +kernel
theorem dX12_sub_227 : decode cX12_sub 227 = .ok (.iaload, 1) := by decide +kernel
theorem dX12_sub_228 : decode cX12_sub 228 = .ok (.aload_n 0, 1) := by decide +kernel
theorem dX12_sub_229 : decode cX12_sub 229 = .ok (.getfield 82, 3) := by decide +kernel
theorem dX12_sub_232 : decode cX12_sub 232 = .ok (.iload 8, 2) := by decide +kernel
theorem dX12_sub_234 : decode cX12_sub 234 = .ok (.iaload, 1) := by decide +kernel
theorem dX12_sub_235 : decode cX12_sub 235 = .ok (.aload_n 0, 1) := by decide +kernel
theorem dX12_sub_236 : decode cX12_sub 236 = .ok (.getfield 82, 3) := by decide +kernel
theorem dX12_sub_239 : decode cX12_sub 239 = .ok (.aload_n 0, 1) := by decide +kernel
theorem dX12_sub_240 : decode cX12_sub 240 = .ok (.iload_n 1, 1) := by decide +kernel
theorem dX12_sub_241 : decode cX12_sub 241 = .ok (.iload 6, 2) := by decide +kernel
theorem dX12_sub_243 : decode cX12_sub 243 = .ok (.iload 7, 2) := by decide +kernel
theorem dX12_sub_245 : decode cX12_sub 245 = .ok (.iload 8, 2) := by decide +kernel
theorem dX12_sub_247 : decode cX12_sub 247 = .ok (.invokevirtual 178, 3) := by decide +kernel
theorem dX12_sub_250 : decode cX12_sub 250 = .ok (.iaload, 1) := by decide +kernel
theorem dX12_sub_251 : decode cX12_sub 251 = .ok (.invokevirtual 307, 3) := by decide +kernel
theorem dX12_sub_254 : decode cX12_sub 254 = .ok (.iinc 8 1, 3) := by decide +kernel
theorem dX12_sub_257 : decode cX12_sub 257 = .ok (.goto (-110), 3) := by decide +kernel
theorem dX12_sub_260 : decode cX12_sub 260 = .ok (.iinc 7 1, 3) := by decide +kernel
theorem dX12_sub_263 : decode cX12_sub 263 = .ok (.goto (-132), 3) := by decide +kernel
theorem dX12_sub_266 : decode cX12_sub 266 = .ok (.iinc 6 1, 3) := by decide +kernel
theorem dX12_sub_269 : decode cX12_sub 269 = .ok (.goto (-152), 3) := by decide +kernel
theorem dX12_sub_272 : decode cX12_sub 272 = .ok (.aload_n 0, 1) := by decide +kernel
theorem dX12_sub_273 : decode cX12_sub 273 = .ok (.iload_n 3, 1) := by decide +kernel
theorem dX12_sub_274 : decode cX12_sub 274 = .ok (.invokevirtual 153, 3) := by decide +kernel
theorem dX12_sub_277 : decode cX12_sub 277 = .ok (.aload_n 0, 1) := by decide +kernel
theorem dX12_sub_278 : decode cX12_sub 278 = .ok (.bipush 8, 2) := by decide +kernel
theorem dX12_sub_280 : decode cX12_sub 280 = .ok (.iload_n 3, 1) := by decide +kernel
theorem dX12_sub_281 : decode cX12_sub 281 = .ok (.invokevirtual 202, 3) := by decide +kernel
theorem dX12_sub_284 : decode cX12_sub 284 = .ok (.iload 5, 2) := by decide +kernel
theorem dX12_sub_286 : decode cX12_sub 286 = .ok (.ireturn, 1) := by decide +kernel
theorem dX12_sub_21 : decode cX12_sub 21 = .ok (.bipush (-3), 2) := by decide +kernel
theorem dX12_sub_23 : decode cX12_sub 23 = .ok (.ireturn, 1) := by decide +kernel
def LX12_sub_147 (F : Nat) (u0 : Nat) (u1 : Int) (u3 : Int) (u4 : Int) (u5 : Int) (u6 : Int) (u7 : Int) (k260 : Int → HF → RO) : Nat → Int → HF → RO
  | 0, _, _ => none
  | n + 1, v8, h =>
    zbd (fX12_upTo F u0 u1 u6 1 h) fun r11 h =>
    if v8 < r11 then (
      zbd (fX12_arity F u0 u1 u6 h) fun r12 h =>
      zjn (fun (x209_8 : Int) (y209_0 : Int) (h : HF) => (
        zjn (fun (x254_8 : Int) (h : HF) => (
          zlet (wr (x254_8 + 1)) fun x13 =>
          LX12_sub_147 F u0 u1 u3 u4 u5 u6 u7 k260 n x13 h
        )) fun j254 =>
        if y209_0 = 0 then (
          j254 x209_8 h
        ) else (
          zrd h (u0 + 25) u7 fun x14 =>
          zrd h (u0 + 25) x209_8 fun x15 =>
          zbd (fX12_value F u0 u1 u6 u7 x209_8 h) fun r16 h =>
          zrd h (u0 + 25) r16 fun x17 =>
          zbd (fX12_setAt F u0 8 u6 x14 x15 x17 h) fun _ h =>
          j254 x209_8 h
        )
      )) fun j209 =>
      zjn (fun (x208_8 : Int) (h : HF) => (
        j209 x208_8 0 h
      )) fun j208 =>
      zjn (fun (x182_8 : Int) (h : HF) => (
        zbd (fX12_arity F u0 u1 u6 h) fun r19 h =>
        zjn (fun (x204_8 : Int) (h : HF) => (
          j209 x204_8 1 h
        )) fun j204 =>
        if r19 < 2 then (
          j204 x182_8 h
        ) else (
          if wand (wshr u4 x182_8) 1 = 1 then (
            j204 x182_8 h
          ) else (
            j208 x182_8 h
          )
        )
      )) fun j182 =>
      if r12 < 1 then (
        j182 v8 h
      ) else (
        if wand (wshr u4 u7) 1 = 1 then (
          j182 v8 h
        ) else (
          j208 v8 h
        )
      )
    ) else (
      k260 u7 h
    )
set_option maxHeartbeats 4000000 in
set_option maxRecDepth 100000 in
theorem wX12_sub_147 {p : Program} {l : Launch} {e : Env} {s : State} {m : MethodId} {args : Array Value} {below : List Frame} {meth : Method} {c : Code} {Q : State → Prop} {g : zG} {B : Nat} {o : Int × HF} (F : Nat) (cx : Cx p s m args meth c cX12_sub 10 RX12 (some .int) g B) (u0 : Nat) (ru0 : kt u0 = 15) (u1 : Int) (ru1 : rng u1) (u3 : Int) (ru3 : rng u3) (u4 : Int) (ru4 : rng u4) (u5 : Int) (ru5 : rng u5) (u6 : Int) (ru6 : rng u6) (u7 : Int) (ru7 : rng u7) (k260 : Int → HF → RO) (hk260 : ∀ (x7 : Int) (h : HF) (H : Heap) (locs : List Loc) (ls : Array Slot), rng x7 → Hp g B s h H locs → lv_has ls 10 [(0, .ref (B + u0)), (1, .int (ii u1)), (3, .int (ii u3)), (4, .int (ii u4)), (5, .int (ii u5)), (6, .int (ii u6)), (7, .int (ii x7))] → k260 x7 h = some o → W p l e (rmn 5) s m args below meth c H locs 0 0 Q (F0 m 260 ls [])) : ∀ (n : Nat) (v8 : Int) (h : HF) (H : Heap) (locs : List Loc) (ls : Array Slot), rng v8 → Hp g B s h H locs → lv_has ls 10 [(0, .ref (B + u0)), (1, .int (ii u1)), (3, .int (ii u3)), (4, .int (ii u4)), (5, .int (ii u5)), (6, .int (ii u6)), (7, .int (ii u7)), (8, .int (ii v8))] → LX12_sub_147 F u0 u1 u3 u4 u5 u6 u7 k260 n v8 h = some o → W p l e (rmn 5) s m args below meth c H locs 0 0 Q (F0 m 147 ls []) := by
  intro n
  induction n with
  | zero =>
    intro v8 h H locs ls rv8 hp hl hf
    cases hf
  | succ n ih =>
    intro v8 h H locs ls rv8 hp hl hf
    rw [LX12_sub_147] at hf
    refine lv_iload cx.1 cx.2.1 dX12_sub_147 (lv_at hl 7 rfl) ?_
    refine lv_aload_n cx.1 cx.2.1 dX12_sub_149 rfl (lv_at hl 0 rfl) ?_
    refine lv_iload_n cx.1 cx.2.1 dX12_sub_150 rfl (lv_at hl 1 rfl) ?_
    refine lv_iload cx.1 cx.2.1 dX12_sub_151 (lv_at hl 5 rfl) ?_
    refine z_iconst cx dX12_sub_153 ?_
    refine z_ci cx hp (fun o' hx => zrunV (n := 5) (As := [.int (ii u1), .int (ii u6), .int (ii 1)]) (rest := [.int (ii v8)]) cx hp (mX12_upTo F l g B h u0 u1 u6 1 ru0 ru1 ru6 (by decide) o' hx) 12 ru0 (by decide) rfl vw_X12_upTo ml_X12_304 (by decide) rfl hl.1 rfl (Nat.le_of_ble_eq_true rfl) dX12_sub_154) hf (fun r11 h H locs rr11 hp hf => ?_)
    refine z_icmp_ge cx rv8 rr11 (tgt := 260) dX12_sub_157 (by decide) hf (fun _ hf => ?_) (fun _ hf => ?_)
    · refine lv_aload_n cx.1 cx.2.1 dX12_sub_160 rfl (lv_at hl 0 rfl) ?_
      refine lv_iload_n cx.1 cx.2.1 dX12_sub_161 rfl (lv_at hl 1 rfl) ?_
      refine lv_iload cx.1 cx.2.1 dX12_sub_162 (lv_at hl 5 rfl) ?_
      refine z_ci cx hp (fun o' hx => zrunV (n := 5) (As := [.int (ii u1), .int (ii u6)]) (rest := []) cx hp (mX12_arity F l g B h u0 u1 u6 ru0 ru1 ru6 o' hx) 12 ru0 (by decide) rfl vw_X12_arity ml_X12_129 (by decide) rfl hl.1 rfl (Nat.le_of_ble_eq_true rfl) dX12_sub_164) hf (fun r12 h H locs rr12 hp hf => ?_)
      refine z_iconst cx dX12_sub_167 ?_
      refine z_jn hf (fun j => ∀ (x209_8 : Int) (y209_0 : Int) (h : HF) (H : Heap) (locs : List Loc) (ls : Array Slot), rng x209_8 → rng y209_0 → Hp g B s h H locs → lv_has ls 10 [(0, .ref (B + u0)), (1, .int (ii u1)), (3, .int (ii u3)), (4, .int (ii u4)), (5, .int (ii u5)), (6, .int (ii u6)), (7, .int (ii u7)), (8, .int (ii x209_8))] → j x209_8 y209_0 h = some o → W p l e (rmn 5) s m args below meth c H locs 0 0 Q (F0 m 209 ls [.int (ii y209_0)])) ?_ (fun j209 hj209 hf => ?_)
      · intro x209_8 y209_0 h H locs ls rx209_8 ry209_0 hp hl hf
        refine lv_istore (lv' := [(9, .int (ii y209_0)), (0, .ref (B + u0)), (1, .int (ii u1)), (3, .int (ii u3)), (4, .int (ii u4)), (5, .int (ii u5)), (6, .int (ii u6)), (7, .int (ii u7)), (8, .int (ii x209_8))]) cx.1 cx.2.1 dX12_sub_209 hl (by decide) rfl (fun ls hl => ?_)
        refine lv_iload cx.1 cx.2.1 dX12_sub_211 (lv_at hl 0 rfl) ?_
        refine z_jn hf (fun j => ∀ (x254_8 : Int) (h : HF) (H : Heap) (locs : List Loc) (ls : Array Slot), rng x254_8 → Hp g B s h H locs → lv_has ls 10 [(0, .ref (B + u0)), (1, .int (ii u1)), (3, .int (ii u3)), (4, .int (ii u4)), (5, .int (ii u5)), (6, .int (ii u6)), (7, .int (ii u7)), (8, .int (ii x254_8))] → j x254_8 h = some o → W p l e (rmn 5) s m args below meth c H locs 0 0 Q (F0 m 254 ls [])) ?_ (fun j254 hj254 hf => ?_)
        · intro x254_8 h H locs ls rx254_8 hp hl hf
          refine z_iinc cx (fun x13 => [(8, .int (ii x13)), (0, .ref (B + u0)), (1, .int (ii u1)), (3, .int (ii u3)), (4, .int (ii u4)), (5, .int (ii u5)), (6, .int (ii u6)), (7, .int (ii u7))]) dX12_sub_254 hl (k := 7) rfl (by decide) (fun _ => rfl) hf (fun x13 rx13 hf ls hl => ?_)
          refine lv_goto (tgt := 147) cx.1 cx.2.1 dX12_sub_257 (by decide) ?_
          exact ih x13 h _ _ ls rx13 hp (lv_sub hl [1, 2, 3, 4, 5, 6, 7, 0] rfl) hf
        refine z_if_eq cx ry209_0 (tgt := 254) dX12_sub_213 (by decide) hf (fun _ hf => ?_) (fun _ hf => ?_)
        · exact hj254 x209_8 h _ _ ls rx209_8 hp (lv_sub hl [1, 2, 3, 4, 5, 6, 7, 8] rfl) hf
        · refine lv_aload_n cx.1 cx.2.1 dX12_sub_216 rfl (lv_at hl 1 rfl) ?_
          refine z_bipush cx (by decide) dX12_sub_217 ?_
          refine lv_iload cx.1 cx.2.1 dX12_sub_219 (lv_at hl 6 rfl) ?_
          refine lv_aload_n cx.1 cx.2.1 dX12_sub_221 rfl (lv_at hl 1 rfl) ?_
          refine z_gets cx hp (T := TX12) 12 41 (u0 + 25) rfl zin_12 (by decide) (by decide) ru0 rfl fl_X12_82 dX12_sub_222 ?_
          refine lv_iload cx.1 cx.2.1 dX12_sub_225 (lv_at hl 7 rfl) ?_
          refine z_iald cx hp (zs_12_41 u0 (kt_lt ru0 (by decide)) ru0) ru7 dX12_sub_227 hf (fun x14 rx14 hf => ?_)
          refine lv_aload_n cx.1 cx.2.1 dX12_sub_228 rfl (lv_at hl 1 rfl) ?_
          refine z_gets cx hp (T := TX12) 12 41 (u0 + 25) rfl zin_12 (by decide) (by decide) ru0 rfl fl_X12_82 dX12_sub_229 ?_
          refine lv_iload cx.1 cx.2.1 dX12_sub_232 (lv_at hl 8 rfl) ?_
          refine z_iald cx hp (zs_12_41 u0 (kt_lt ru0 (by decide)) ru0) rx209_8 dX12_sub_234 hf (fun x15 rx15 hf => ?_)
          refine lv_aload_n cx.1 cx.2.1 dX12_sub_235 rfl (lv_at hl 1 rfl) ?_
          refine z_gets cx hp (T := TX12) 12 41 (u0 + 25) rfl zin_12 (by decide) (by decide) ru0 rfl fl_X12_82 dX12_sub_236 ?_
          refine lv_aload_n cx.1 cx.2.1 dX12_sub_239 rfl (lv_at hl 1 rfl) ?_
          refine lv_iload_n cx.1 cx.2.1 dX12_sub_240 rfl (lv_at hl 2 rfl) ?_
          refine lv_iload cx.1 cx.2.1 dX12_sub_241 (lv_at hl 6 rfl) ?_
          refine lv_iload cx.1 cx.2.1 dX12_sub_243 (lv_at hl 7 rfl) ?_
          refine lv_iload cx.1 cx.2.1 dX12_sub_245 (lv_at hl 8 rfl) ?_
          refine z_ci cx hp (fun o' hx => zrunV (n := 5) (As := [.int (ii u1), .int (ii u6), .int (ii u7), .int (ii x209_8)]) (rest := [.ref (B + (u0 + 25)), .int (ii x15), .int (ii x14), .int (ii u6), .int (ii 8), .ref (B + u0)]) cx hp (mX12_value F l g B h u0 u1 u6 u7 x209_8 ru0 ru1 ru6 ru7 rx209_8 o' hx) 12 ru0 (by decide) rfl vw_X12_value ml_X12_178 (by decide) rfl hl.1 rfl (Nat.le_of_ble_eq_true rfl) dX12_sub_247) hf (fun r16 h H locs rr16 hp hf => ?_)
          refine z_iald cx hp (zs_12_41 u0 (kt_lt ru0 (by decide)) ru0) rr16 dX12_sub_250 hf (fun x17 rx17 hf => ?_)
          refine z_cv cx hp (fun o' hx => zrunV (n := 5) (As := [.int (ii 8), .int (ii u6), .int (ii x14), .int (ii x15), .int (ii x17)]) (rest := []) cx hp (mX12_setAt F l g B h u0 8 u6 x14 x15 x17 ru0 (by decide) ru6 rx14 rx15 rx17 o' hx) 12 ru0 (by decide) rfl vw_X12_setAt ml_X12_307 (by decide) rfl hl.1 rfl (Nat.le_of_ble_eq_true rfl) dX12_sub_251) hf (fun _ h H locs hp hf => ?_)
          exact hj254 x209_8 h _ _ ls rx209_8 hp (lv_sub hl [1, 2, 3, 4, 5, 6, 7, 8] rfl) hf
      refine z_jn hf (fun j => ∀ (x208_8 : Int) (h : HF) (H : Heap) (locs : List Loc) (ls : Array Slot), rng x208_8 → Hp g B s h H locs → lv_has ls 10 [(0, .ref (B + u0)), (1, .int (ii u1)), (3, .int (ii u3)), (4, .int (ii u4)), (5, .int (ii u5)), (6, .int (ii u6)), (7, .int (ii u7)), (8, .int (ii x208_8))] → j x208_8 h = some o → W p l e (rmn 5) s m args below meth c H locs 0 0 Q (F0 m 208 ls [])) ?_ (fun j208 hj208 hf => ?_)
      · intro x208_8 h H locs ls rx208_8 hp hl hf
        refine z_iconst cx dX12_sub_208 ?_
        exact hj209 x208_8 0 h _ _ ls rx208_8 (by decide) hp (lv_sub hl [0, 1, 2, 3, 4, 5, 6, 7] rfl) hf
      refine z_jn hf (fun j => ∀ (x182_8 : Int) (h : HF) (H : Heap) (locs : List Loc) (ls : Array Slot), rng x182_8 → Hp g B s h H locs → lv_has ls 10 [(0, .ref (B + u0)), (1, .int (ii u1)), (3, .int (ii u3)), (4, .int (ii u4)), (5, .int (ii u5)), (6, .int (ii u6)), (7, .int (ii u7)), (8, .int (ii x182_8))] → j x182_8 h = some o → W p l e (rmn 5) s m args below meth c H locs 0 0 Q (F0 m 182 ls [])) ?_ (fun j182 hj182 hf => ?_)
      · intro x182_8 h H locs ls rx182_8 hp hl hf
        refine lv_aload_n cx.1 cx.2.1 dX12_sub_182 rfl (lv_at hl 0 rfl) ?_
        refine lv_iload_n cx.1 cx.2.1 dX12_sub_183 rfl (lv_at hl 1 rfl) ?_
        refine lv_iload cx.1 cx.2.1 dX12_sub_184 (lv_at hl 5 rfl) ?_
        refine z_ci cx hp (fun o' hx => zrunV (n := 5) (As := [.int (ii u1), .int (ii u6)]) (rest := []) cx hp (mX12_arity F l g B h u0 u1 u6 ru0 ru1 ru6 o' hx) 12 ru0 (by decide) rfl vw_X12_arity ml_X12_129 (by decide) rfl hl.1 rfl (Nat.le_of_ble_eq_true rfl) dX12_sub_186) hf (fun r19 h H locs rr19 hp hf => ?_)
        refine z_iconst cx dX12_sub_189 ?_
        refine z_jn hf (fun j => ∀ (x204_8 : Int) (h : HF) (H : Heap) (locs : List Loc) (ls : Array Slot), rng x204_8 → Hp g B s h H locs → lv_has ls 10 [(0, .ref (B + u0)), (1, .int (ii u1)), (3, .int (ii u3)), (4, .int (ii u4)), (5, .int (ii u5)), (6, .int (ii u6)), (7, .int (ii u7)), (8, .int (ii x204_8))] → j x204_8 h = some o → W p l e (rmn 5) s m args below meth c H locs 0 0 Q (F0 m 204 ls [])) ?_ (fun j204 hj204 hf => ?_)
        · intro x204_8 h H locs ls rx204_8 hp hl hf
          refine z_iconst cx dX12_sub_204 ?_
          refine lv_goto (tgt := 209) cx.1 cx.2.1 dX12_sub_205 (by decide) ?_
          exact hj209 x204_8 1 h _ _ ls rx204_8 (by decide) hp (lv_sub hl [0, 1, 2, 3, 4, 5, 6, 7] rfl) hf
        refine z_icmp_lt cx rr19 (by decide) (tgt := 204) dX12_sub_190 (by decide) hf (fun _ hf => ?_) (fun _ hf => ?_)
        · exact hj204 x182_8 h _ _ ls rx182_8 hp (lv_sub hl [0, 1, 2, 3, 4, 5, 6, 7] rfl) hf
        · refine lv_iload cx.1 cx.2.1 dX12_sub_193 (lv_at hl 3 rfl) ?_
          refine lv_iload cx.1 cx.2.1 dX12_sub_195 (lv_at hl 7 rfl) ?_
          refine z_ishr cx dX12_sub_197 ?_
          refine z_iconst cx dX12_sub_198 ?_
          refine z_iand cx dX12_sub_199 ?_
          refine z_iconst cx dX12_sub_200 ?_
          refine z_icmp_ne cx (rng_and _ _) (by decide) (tgt := 208) dX12_sub_201 (by decide) hf (fun _ hf => ?_) (fun _ hf => ?_)
          · exact hj204 x182_8 h _ _ ls rx182_8 hp (lv_sub hl [0, 1, 2, 3, 4, 5, 6, 7] rfl) hf
          · exact hj208 x182_8 h _ _ ls rx182_8 hp (lv_sub hl [0, 1, 2, 3, 4, 5, 6, 7] rfl) hf
      refine z_icmp_lt cx rr12 (by decide) (tgt := 182) dX12_sub_168 (by decide) hf (fun _ hf => ?_) (fun _ hf => ?_)
      · exact hj182 v8 h _ _ ls rv8 hp (lv_sub hl [0, 1, 2, 3, 4, 5, 6, 7] rfl) hf
      · refine lv_iload cx.1 cx.2.1 dX12_sub_171 (lv_at hl 3 rfl) ?_
        refine lv_iload cx.1 cx.2.1 dX12_sub_173 (lv_at hl 6 rfl) ?_
        refine z_ishr cx dX12_sub_175 ?_
        refine z_iconst cx dX12_sub_176 ?_
        refine z_iand cx dX12_sub_177 ?_
        refine z_iconst cx dX12_sub_178 ?_
        refine z_icmp_ne cx (rng_and _ _) (by decide) (tgt := 208) dX12_sub_179 (by decide) hf (fun _ hf => ?_) (fun _ hf => ?_)
        · exact hj182 v8 h _ _ ls rv8 hp (lv_sub hl [0, 1, 2, 3, 4, 5, 6, 7] rfl) hf
        · exact hj208 v8 h _ _ ls rv8 hp (lv_sub hl [0, 1, 2, 3, 4, 5, 6, 7] rfl) hf
    · exact hk260 u7 h _ _ ls ru7 hp (lv_sub hl [0, 1, 2, 3, 4, 5, 6] rfl) hf
def LX12_sub_131 (F : Nat) (u0 : Nat) (u1 : Int) (u3 : Int) (u4 : Int) (u5 : Int) (u6 : Int) (k266 : Int → HF → RO) : Nat → Int → HF → RO
  | 0, _, _ => none
  | n + 1, v7, h =>
    zbd (fX12_upTo F u0 u1 u6 0 h) fun r9 h =>
    if v7 < r9 then (
      zjn (fun (x260_7 : Int) (h : HF) => (
        zlet (wr (x260_7 + 1)) fun x10 =>
        LX12_sub_131 F u0 u1 u3 u4 u5 u6 k266 n x10 h
      )) fun j260 =>
      LX12_sub_147 F u0 u1 u3 u4 u5 u6 v7 j260 F 0 h
    ) else (
      k266 u6 h
    )
set_option maxHeartbeats 4000000 in
set_option maxRecDepth 100000 in
theorem wX12_sub_131 {p : Program} {l : Launch} {e : Env} {s : State} {m : MethodId} {args : Array Value} {below : List Frame} {meth : Method} {c : Code} {Q : State → Prop} {g : zG} {B : Nat} {o : Int × HF} (F : Nat) (cx : Cx p s m args meth c cX12_sub 10 RX12 (some .int) g B) (u0 : Nat) (ru0 : kt u0 = 15) (u1 : Int) (ru1 : rng u1) (u3 : Int) (ru3 : rng u3) (u4 : Int) (ru4 : rng u4) (u5 : Int) (ru5 : rng u5) (u6 : Int) (ru6 : rng u6) (k266 : Int → HF → RO) (hk266 : ∀ (x6 : Int) (h : HF) (H : Heap) (locs : List Loc) (ls : Array Slot), rng x6 → Hp g B s h H locs → lv_has ls 10 [(0, .ref (B + u0)), (1, .int (ii u1)), (3, .int (ii u3)), (4, .int (ii u4)), (5, .int (ii u5)), (6, .int (ii x6))] → k266 x6 h = some o → W p l e (rmn 5) s m args below meth c H locs 0 0 Q (F0 m 266 ls [])) : ∀ (n : Nat) (v7 : Int) (h : HF) (H : Heap) (locs : List Loc) (ls : Array Slot), rng v7 → Hp g B s h H locs → lv_has ls 10 [(0, .ref (B + u0)), (1, .int (ii u1)), (3, .int (ii u3)), (4, .int (ii u4)), (5, .int (ii u5)), (6, .int (ii u6)), (7, .int (ii v7))] → LX12_sub_131 F u0 u1 u3 u4 u5 u6 k266 n v7 h = some o → W p l e (rmn 5) s m args below meth c H locs 0 0 Q (F0 m 131 ls []) := by
  intro n
  induction n with
  | zero =>
    intro v7 h H locs ls rv7 hp hl hf
    cases hf
  | succ n ih =>
    intro v7 h H locs ls rv7 hp hl hf
    rw [LX12_sub_131] at hf
    refine lv_iload cx.1 cx.2.1 dX12_sub_131 (lv_at hl 6 rfl) ?_
    refine lv_aload_n cx.1 cx.2.1 dX12_sub_133 rfl (lv_at hl 0 rfl) ?_
    refine lv_iload_n cx.1 cx.2.1 dX12_sub_134 rfl (lv_at hl 1 rfl) ?_
    refine lv_iload cx.1 cx.2.1 dX12_sub_135 (lv_at hl 5 rfl) ?_
    refine z_iconst cx dX12_sub_137 ?_
    refine z_ci cx hp (fun o' hx => zrunV (n := 5) (As := [.int (ii u1), .int (ii u6), .int (ii 0)]) (rest := [.int (ii v7)]) cx hp (mX12_upTo F l g B h u0 u1 u6 0 ru0 ru1 ru6 (by decide) o' hx) 12 ru0 (by decide) rfl vw_X12_upTo ml_X12_304 (by decide) rfl hl.1 rfl (Nat.le_of_ble_eq_true rfl) dX12_sub_138) hf (fun r9 h H locs rr9 hp hf => ?_)
    refine z_icmp_ge cx rv7 rr9 (tgt := 266) dX12_sub_141 (by decide) hf (fun _ hf => ?_) (fun _ hf => ?_)
    · refine z_iconst cx dX12_sub_144 ?_
      refine lv_istore (lv' := [(8, .int (ii 0)), (0, .ref (B + u0)), (1, .int (ii u1)), (3, .int (ii u3)), (4, .int (ii u4)), (5, .int (ii u5)), (6, .int (ii u6)), (7, .int (ii v7))]) cx.1 cx.2.1 dX12_sub_145 hl (by decide) rfl (fun ls hl => ?_)
      refine z_jn hf (fun j => ∀ (x260_7 : Int) (h : HF) (H : Heap) (locs : List Loc) (ls : Array Slot), rng x260_7 → Hp g B s h H locs → lv_has ls 10 [(0, .ref (B + u0)), (1, .int (ii u1)), (3, .int (ii u3)), (4, .int (ii u4)), (5, .int (ii u5)), (6, .int (ii u6)), (7, .int (ii x260_7))] → j x260_7 h = some o → W p l e (rmn 5) s m args below meth c H locs 0 0 Q (F0 m 260 ls [])) ?_ (fun j260 hj260 hf => ?_)
      · intro x260_7 h H locs ls rx260_7 hp hl hf
        refine z_iinc cx (fun x10 => [(7, .int (ii x10)), (0, .ref (B + u0)), (1, .int (ii u1)), (3, .int (ii u3)), (4, .int (ii u4)), (5, .int (ii u5)), (6, .int (ii u6))]) dX12_sub_260 hl (k := 6) rfl (by decide) (fun _ => rfl) hf (fun x10 rx10 hf ls hl => ?_)
        refine lv_goto (tgt := 131) cx.1 cx.2.1 dX12_sub_263 (by decide) ?_
        exact ih x10 h _ _ ls rx10 hp (lv_sub hl [1, 2, 3, 4, 5, 6, 0] rfl) hf
      exact wX12_sub_147 F cx u0 ru0 u1 ru1 u3 ru3 u4 ru4 u5 ru5 u6 ru6 v7 rv7 j260 hj260 F 0 h _ _ ls (by decide) hp (lv_sub hl [1, 2, 3, 4, 5, 6, 7, 0] rfl) hf
    · exact hk266 u6 h _ _ ls ru6 hp (lv_sub hl [0, 1, 2, 3, 4, 5] rfl) hf
def LX12_sub_117 (F : Nat) (u0 : Nat) (u1 : Int) (u3 : Int) (u4 : Int) (u5 : Int) (k272 : Int → HF → RO) : Nat → Int → HF → RO
  | 0, _, _ => none
  | n + 1, v6, h =>
    zrd h (u0 + 4) u1 fun x7 =>
    if v6 < x7 then (
      zjn (fun (x266_6 : Int) (h : HF) => (
        zlet (wr (x266_6 + 1)) fun x8 =>
        LX12_sub_117 F u0 u1 u3 u4 u5 k272 n x8 h
      )) fun j266 =>
      LX12_sub_131 F u0 u1 u3 u4 u5 v6 j266 F 0 h
    ) else (
      k272 u5 h
    )
set_option maxHeartbeats 4000000 in
set_option maxRecDepth 100000 in
theorem wX12_sub_117 {p : Program} {l : Launch} {e : Env} {s : State} {m : MethodId} {args : Array Value} {below : List Frame} {meth : Method} {c : Code} {Q : State → Prop} {g : zG} {B : Nat} {o : Int × HF} (F : Nat) (cx : Cx p s m args meth c cX12_sub 10 RX12 (some .int) g B) (u0 : Nat) (ru0 : kt u0 = 15) (u1 : Int) (ru1 : rng u1) (u3 : Int) (ru3 : rng u3) (u4 : Int) (ru4 : rng u4) (u5 : Int) (ru5 : rng u5) (k272 : Int → HF → RO) (hk272 : ∀ (x5 : Int) (h : HF) (H : Heap) (locs : List Loc) (ls : Array Slot), rng x5 → Hp g B s h H locs → lv_has ls 10 [(0, .ref (B + u0)), (3, .int (ii u3)), (5, .int (ii x5))] → k272 x5 h = some o → W p l e (rmn 5) s m args below meth c H locs 0 0 Q (F0 m 272 ls [])) : ∀ (n : Nat) (v6 : Int) (h : HF) (H : Heap) (locs : List Loc) (ls : Array Slot), rng v6 → Hp g B s h H locs → lv_has ls 10 [(0, .ref (B + u0)), (1, .int (ii u1)), (3, .int (ii u3)), (4, .int (ii u4)), (5, .int (ii u5)), (6, .int (ii v6))] → LX12_sub_117 F u0 u1 u3 u4 u5 k272 n v6 h = some o → W p l e (rmn 5) s m args below meth c H locs 0 0 Q (F0 m 117 ls []) := by
  intro n
  induction n with
  | zero =>
    intro v6 h H locs ls rv6 hp hl hf
    cases hf
  | succ n ih =>
    intro v6 h H locs ls rv6 hp hl hf
    rw [LX12_sub_117] at hf
    refine lv_iload cx.1 cx.2.1 dX12_sub_117 (lv_at hl 5 rfl) ?_
    refine lv_aload_n cx.1 cx.2.1 dX12_sub_119 rfl (lv_at hl 0 rfl) ?_
    refine z_gets cx hp (T := TX12) 12 7 (u0 + 4) rfl zin_12 (by decide) (by decide) ru0 rfl fl_X12_19 dX12_sub_120 ?_
    refine lv_iload_n cx.1 cx.2.1 dX12_sub_123 rfl (lv_at hl 1 rfl) ?_
    refine z_iald cx hp (zs_12_7 u0 (kt_lt ru0 (by decide)) ru0) ru1 dX12_sub_124 hf (fun x7 rx7 hf => ?_)
    refine z_icmp_ge cx rv6 rx7 (tgt := 272) dX12_sub_125 (by decide) hf (fun _ hf => ?_) (fun _ hf => ?_)
    · refine z_iconst cx dX12_sub_128 ?_
      refine lv_istore (lv' := [(7, .int (ii 0)), (0, .ref (B + u0)), (1, .int (ii u1)), (3, .int (ii u3)), (4, .int (ii u4)), (5, .int (ii u5)), (6, .int (ii v6))]) cx.1 cx.2.1 dX12_sub_129 hl (by decide) rfl (fun ls hl => ?_)
      refine z_jn hf (fun j => ∀ (x266_6 : Int) (h : HF) (H : Heap) (locs : List Loc) (ls : Array Slot), rng x266_6 → Hp g B s h H locs → lv_has ls 10 [(0, .ref (B + u0)), (1, .int (ii u1)), (3, .int (ii u3)), (4, .int (ii u4)), (5, .int (ii u5)), (6, .int (ii x266_6))] → j x266_6 h = some o → W p l e (rmn 5) s m args below meth c H locs 0 0 Q (F0 m 266 ls [])) ?_ (fun j266 hj266 hf => ?_)
      · intro x266_6 h H locs ls rx266_6 hp hl hf
        refine z_iinc cx (fun x8 => [(6, .int (ii x8)), (0, .ref (B + u0)), (1, .int (ii u1)), (3, .int (ii u3)), (4, .int (ii u4)), (5, .int (ii u5))]) dX12_sub_266 hl (k := 5) rfl (by decide) (fun _ => rfl) hf (fun x8 rx8 hf ls hl => ?_)
        refine lv_goto (tgt := 117) cx.1 cx.2.1 dX12_sub_269 (by decide) ?_
        exact ih x8 h _ _ ls rx8 hp (lv_sub hl [1, 2, 3, 4, 5, 0] rfl) hf
      exact wX12_sub_131 F cx u0 ru0 u1 ru1 u3 ru3 u4 ru4 u5 ru5 v6 rv6 j266 hj266 F 0 h _ _ ls (by decide) hp (lv_sub hl [1, 2, 3, 4, 5, 6, 0] rfl) hf
    · exact hk272 u5 h _ _ ls ru5 hp (lv_sub hl [0, 2, 4] rfl) hf
def LX12_sub_67 (F : Nat) (u0 : Nat) (u1 : Int) (u3 : Int) (u4 : Int) (k107 : Int → Int → HF → RO) : Nat → Int → Int → HF → RO
  | 0, _, _, _ => none
  | n + 1, v5, v6, h =>
    zrd h (u0 + 3) u1 fun x20 =>
    if v6 < x20 then (
      zjn (fun (x101_5 : Int) (x101_6 : Int) (h : HF) => (
        zlet (wr (x101_6 + 1)) fun x21 =>
        LX12_sub_67 F u0 u1 u3 u4 k107 n x101_5 x21 h
      )) fun j101 =>
      if wand (wshr u4 v6) 1 = 1 then (
        zwr h (u0 + 25) v6 v5 fun h =>
        zlet (wr (v5 + 1)) fun x22 =>
        j101 x22 v6 h
      ) else (
        j101 v5 v6 h
      )
    ) else (
      k107 u4 v5 h
    )
set_option maxHeartbeats 4000000 in
set_option maxRecDepth 100000 in
theorem wX12_sub_67 {p : Program} {l : Launch} {e : Env} {s : State} {m : MethodId} {args : Array Value} {below : List Frame} {meth : Method} {c : Code} {Q : State → Prop} {g : zG} {B : Nat} {o : Int × HF} (F : Nat) (cx : Cx p s m args meth c cX12_sub 10 RX12 (some .int) g B) (u0 : Nat) (ru0 : kt u0 = 15) (u1 : Int) (ru1 : rng u1) (u3 : Int) (ru3 : rng u3) (u4 : Int) (ru4 : rng u4) (k107 : Int → Int → HF → RO) (hk107 : ∀ (x4 : Int) (x5 : Int) (h : HF) (H : Heap) (locs : List Loc) (ls : Array Slot), rng x4 → rng x5 → Hp g B s h H locs → lv_has ls 10 [(0, .ref (B + u0)), (1, .int (ii u1)), (3, .int (ii u3)), (4, .int (ii x4)), (5, .int (ii x5))] → k107 x4 x5 h = some o → W p l e (rmn 5) s m args below meth c H locs 0 0 Q (F0 m 107 ls [])) : ∀ (n : Nat) (v5 : Int) (v6 : Int) (h : HF) (H : Heap) (locs : List Loc) (ls : Array Slot), rng v5 → rng v6 → Hp g B s h H locs → lv_has ls 10 [(0, .ref (B + u0)), (1, .int (ii u1)), (3, .int (ii u3)), (4, .int (ii u4)), (5, .int (ii v5)), (6, .int (ii v6))] → LX12_sub_67 F u0 u1 u3 u4 k107 n v5 v6 h = some o → W p l e (rmn 5) s m args below meth c H locs 0 0 Q (F0 m 67 ls []) := by
  intro n
  induction n with
  | zero =>
    intro v5 v6 h H locs ls rv5 rv6 hp hl hf
    cases hf
  | succ n ih =>
    intro v5 v6 h H locs ls rv5 rv6 hp hl hf
    rw [LX12_sub_67] at hf
    refine lv_iload cx.1 cx.2.1 dX12_sub_67 (lv_at hl 5 rfl) ?_
    refine lv_aload_n cx.1 cx.2.1 dX12_sub_69 rfl (lv_at hl 0 rfl) ?_
    refine z_gets cx hp (T := TX12) 12 6 (u0 + 3) rfl zin_12 (by decide) (by decide) ru0 rfl fl_X12_16 dX12_sub_70 ?_
    refine lv_iload_n cx.1 cx.2.1 dX12_sub_73 rfl (lv_at hl 1 rfl) ?_
    refine z_iald cx hp (zs_12_6 u0 (kt_lt ru0 (by decide)) ru0) ru1 dX12_sub_74 hf (fun x20 rx20 hf => ?_)
    refine z_icmp_ge cx rv6 rx20 (tgt := 107) dX12_sub_75 (by decide) hf (fun _ hf => ?_) (fun _ hf => ?_)
    · refine lv_iload cx.1 cx.2.1 dX12_sub_78 (lv_at hl 3 rfl) ?_
      refine lv_iload cx.1 cx.2.1 dX12_sub_80 (lv_at hl 5 rfl) ?_
      refine z_ishr cx dX12_sub_82 ?_
      refine z_iconst cx dX12_sub_83 ?_
      refine z_iand cx dX12_sub_84 ?_
      refine z_iconst cx dX12_sub_85 ?_
      refine z_jn hf (fun j => ∀ (x101_5 : Int) (x101_6 : Int) (h : HF) (H : Heap) (locs : List Loc) (ls : Array Slot), rng x101_5 → rng x101_6 → Hp g B s h H locs → lv_has ls 10 [(0, .ref (B + u0)), (1, .int (ii u1)), (3, .int (ii u3)), (4, .int (ii u4)), (5, .int (ii x101_5)), (6, .int (ii x101_6))] → j x101_5 x101_6 h = some o → W p l e (rmn 5) s m args below meth c H locs 0 0 Q (F0 m 101 ls [])) ?_ (fun j101 hj101 hf => ?_)
      · intro x101_5 x101_6 h H locs ls rx101_5 rx101_6 hp hl hf
        refine z_iinc cx (fun x21 => [(6, .int (ii x21)), (0, .ref (B + u0)), (1, .int (ii u1)), (3, .int (ii u3)), (4, .int (ii u4)), (5, .int (ii x101_5))]) dX12_sub_101 hl (k := 5) rfl (by decide) (fun _ => rfl) hf (fun x21 rx21 hf ls hl => ?_)
        refine lv_goto (tgt := 67) cx.1 cx.2.1 dX12_sub_104 (by decide) ?_
        exact ih x101_5 x21 h _ _ ls rx101_5 rx21 hp (lv_sub hl [1, 2, 3, 4, 5, 0] rfl) hf
      refine z_icmp_ne cx (rng_and _ _) (by decide) (tgt := 101) dX12_sub_86 (by decide) hf (fun _ hf => ?_) (fun _ hf => ?_)
      · refine lv_aload_n cx.1 cx.2.1 dX12_sub_89 rfl (lv_at hl 0 rfl) ?_
        refine z_gets cx hp (T := TX12) 12 41 (u0 + 25) rfl zin_12 (by decide) (by decide) ru0 rfl fl_X12_82 dX12_sub_90 ?_
        refine lv_iload cx.1 cx.2.1 dX12_sub_93 (lv_at hl 5 rfl) ?_
        refine lv_iload cx.1 cx.2.1 dX12_sub_95 (lv_at hl 4 rfl) ?_
        refine z_iast cx hp (zs_12_41 u0 (kt_lt ru0 (by decide)) ru0) rv6 rv5 dX12_sub_97 hf (fun h H locs hp hf => ?_)
        refine z_iinc cx (fun x22 => [(5, .int (ii x22)), (0, .ref (B + u0)), (1, .int (ii u1)), (3, .int (ii u3)), (4, .int (ii u4)), (6, .int (ii v6))]) dX12_sub_98 hl (k := 4) rfl (by decide) (fun _ => rfl) hf (fun x22 rx22 hf ls hl => ?_)
        exact hj101 x22 v6 h _ _ ls rx22 rv6 hp (lv_sub hl [1, 2, 3, 4, 0, 5] rfl) hf
      · exact hj101 v5 v6 h _ _ ls rv5 rv6 hp (lv_sub hl [0, 1, 2, 3, 4, 5] rfl) hf
    · exact hk107 u4 v5 h _ _ ls ru4 rv5 hp (lv_sub hl [0, 1, 2, 3, 4] rfl) hf
def fX12_sub (F : Nat) (a0 : Nat) (a1 : Int) (a2 : Int) (a3 : Int) (h : HF) : RO :=
  zpf h a0 0 0 fun h =>
  zbd (fX12_isDrawer F a0 a1 h) fun r1 h =>
  zjn (fun  (h : HF) => (
    some ((-3), h)
  )) fun j21 =>
  if r1 = 0 then (
    j21  h
  ) else (
    zbd (fX12_isDrawer F a0 a3 h) fun r2 h =>
    if r2 = 0 then (
      j21  h
    ) else (
      zrd h (a0 + 3) a1 fun x3 =>
      if x3 = 0 then (
        some ((-2), h)
      ) else (
        zjn (fun (y50_0 : Int) (h : HF) => (
          if y50_0 = (-1) then (
            some ((-3), h)
          ) else (
            zjn (fun (x107_4 : Int) (x107_5 : Int) (h : HF) => (
              zbd (fX12_like F a0 a1 x107_5 h) fun _ h =>
              zjn (fun (x272_5 : Int) (h : HF) => (
                zbd (fX12_keep F a0 a3 h) fun _ h =>
                zbd (fX12_copy F a0 8 a3 h) fun _ h =>
                some (x272_5, h)
              )) fun j272 =>
              LX12_sub_117 F a0 a1 a3 x107_4 x107_5 j272 F 0 h
            )) fun j107 =>
            LX12_sub_67 F a0 a1 a3 y50_0 j107 F 0 0 h
          )
        )) fun j50 =>
        if a2 < 0 then (
          j50 (-1) h
        ) else (
          zbd (fX12_partOf F a0 a1 a2 h) fun r23 h =>
          j50 r23 h
        )
      )
    )
  )
set_option maxHeartbeats 4000000 in
set_option maxRecDepth 100000 in
theorem mX12_sub (F : Nat) (l : Launch) (g : zG) (B : Nat) (h : HF) (a0 : Nat) (a1 : Int) (a2 : Int) (a3 : Int) (ra0 : kt a0 = 15) (ra1 : rng a1) (ra2 : rng a2) (ra3 : rng a3) : CTi l g B yX12_sub cX12_sub 10 (some .int) 5 [.ref (B + a0), .int (ii a1), .int (ii a2), .int (ii a3)] h (fX12_sub F a0 a1 a2 a3 h) := by
  refine z_enterI (by decide) rfl (Nat.le_of_ble_eq_true rfl) ?_
  intro p e s m args below meth c ls o Q cx hp hl hf hQ
  have hl : lv_has ls 10 [(0, .ref (B + a0)), (1, .int (ii a1)), (2, .int (ii a2)), (3, .int (ii a3))] := hl
  unfold fX12_sub at hf
  refine lv_aload_n cx.1 cx.2.1 dX12_sub_0 rfl (lv_at hl 0 rfl) ?_
  refine z_iconst cx dX12_sub_1 ?_
  refine z_puti cx hp (T := TX12) tyX12 tyX12_ok nmX12 12 0 (by decide) rfl zin_12 (by decide) (by decide) ra0 rfl rfl rfl fl_X12_115 dX12_sub_2 hf (fun h H locs hp hf => ?_)
  refine lv_aload_n cx.1 cx.2.1 dX12_sub_5 rfl (lv_at hl 0 rfl) ?_
  refine lv_iload_n cx.1 cx.2.1 dX12_sub_6 rfl (lv_at hl 1 rfl) ?_
  refine z_ci cx hp (fun o' hx => zrunV (n := 5) (As := [.int (ii a1)]) (rest := []) cx hp (mX12_isDrawer F l g B h a0 a1 ra0 ra1 o' hx) 12 ra0 (by decide) rfl vw_X12_isDrawer ml_X12_146 (by decide) rfl hl.1 rfl (Nat.le_of_ble_eq_true rfl) dX12_sub_7) hf (fun r1 h H locs rr1 hp hf => ?_)
  refine z_jn hf (fun j => ∀  (h : HF) (H : Heap) (locs : List Loc) (ls : Array Slot), Hp g B s h H locs → lv_has ls 10 [] → j  h = some o → W p l e (rmn 5) s m args below meth c H locs 0 0 Q (F0 m 21 ls [])) ?_ (fun j21 hj21 hf => ?_)
  · intro  h H locs ls  hp hl hf
    refine z_bipush cx (by decide) dX12_sub_21 ?_
    rw [hQ]; exact z_iret cx hp (by decide) dX12_sub_23 hf
  refine z_if_eq cx rr1 (tgt := 21) dX12_sub_10 (by decide) hf (fun _ hf => ?_) (fun _ hf => ?_)
  · exact hj21  h _ _ ls  hp (lv_sub hl [] rfl) hf
  · refine lv_aload_n cx.1 cx.2.1 dX12_sub_13 rfl (lv_at hl 0 rfl) ?_
    refine lv_iload_n cx.1 cx.2.1 dX12_sub_14 rfl (lv_at hl 3 rfl) ?_
    refine z_ci cx hp (fun o' hx => zrunV (n := 5) (As := [.int (ii a3)]) (rest := []) cx hp (mX12_isDrawer F l g B h a0 a3 ra0 ra3 o' hx) 12 ra0 (by decide) rfl vw_X12_isDrawer ml_X12_146 (by decide) rfl hl.1 rfl (Nat.le_of_ble_eq_true rfl) dX12_sub_15) hf (fun r2 h H locs rr2 hp hf => ?_)
    refine z_if_ne cx rr2 (tgt := 24) dX12_sub_18 (by decide) hf (fun _ hf => ?_) (fun _ hf => ?_)
    · exact hj21  h _ _ ls  hp (lv_sub hl [] rfl) hf
    · refine lv_aload_n cx.1 cx.2.1 dX12_sub_24 rfl (lv_at hl 0 rfl) ?_
      refine z_gets cx hp (T := TX12) 12 6 (a0 + 3) rfl zin_12 (by decide) (by decide) ra0 rfl fl_X12_16 dX12_sub_25 ?_
      refine lv_iload_n cx.1 cx.2.1 dX12_sub_28 rfl (lv_at hl 1 rfl) ?_
      refine z_iald cx hp (zs_12_6 a0 (kt_lt ra0 (by decide)) ra0) ra1 dX12_sub_29 hf (fun x3 rx3 hf => ?_)
      refine z_if_ne cx rx3 (tgt := 36) dX12_sub_30 (by decide) hf (fun _ hf => ?_) (fun _ hf => ?_)
      · refine z_bipush cx (by decide) dX12_sub_33 ?_
        rw [hQ]; exact z_iret cx hp (by decide) dX12_sub_35 hf
      · refine lv_iload_n cx.1 cx.2.1 dX12_sub_36 rfl (lv_at hl 2 rfl) ?_
        refine z_jn hf (fun j => ∀ (y50_0 : Int) (h : HF) (H : Heap) (locs : List Loc) (ls : Array Slot), rng y50_0 → Hp g B s h H locs → lv_has ls 10 [(0, .ref (B + a0)), (1, .int (ii a1)), (3, .int (ii a3))] → j y50_0 h = some o → W p l e (rmn 5) s m args below meth c H locs 0 0 Q (F0 m 50 ls [.int (ii y50_0)])) ?_ (fun j50 hj50 hf => ?_)
        · intro y50_0 h H locs ls ry50_0 hp hl hf
          refine lv_istore (lv' := [(4, .int (ii y50_0)), (0, .ref (B + a0)), (1, .int (ii a1)), (3, .int (ii a3))]) cx.1 cx.2.1 dX12_sub_50 hl (by decide) rfl (fun ls hl => ?_)
          refine lv_iload cx.1 cx.2.1 dX12_sub_52 (lv_at hl 0 rfl) ?_
          refine z_iconst cx dX12_sub_54 ?_
          refine z_icmp_ne cx ry50_0 (by decide) (tgt := 61) dX12_sub_55 (by decide) hf (fun _ hf => ?_) (fun _ hf => ?_)
          · refine z_bipush cx (by decide) dX12_sub_58 ?_
            rw [hQ]; exact z_iret cx hp (by decide) dX12_sub_60 hf
          · refine z_iconst cx dX12_sub_61 ?_
            refine lv_istore (lv' := [(5, .int (ii 0)), (4, .int (ii y50_0)), (0, .ref (B + a0)), (1, .int (ii a1)), (3, .int (ii a3))]) cx.1 cx.2.1 dX12_sub_62 hl (by decide) rfl (fun ls hl => ?_)
            refine z_iconst cx dX12_sub_64 ?_
            refine lv_istore (lv' := [(6, .int (ii 0)), (5, .int (ii 0)), (4, .int (ii y50_0)), (0, .ref (B + a0)), (1, .int (ii a1)), (3, .int (ii a3))]) cx.1 cx.2.1 dX12_sub_65 hl (by decide) rfl (fun ls hl => ?_)
            refine z_jn hf (fun j => ∀ (x107_4 : Int) (x107_5 : Int) (h : HF) (H : Heap) (locs : List Loc) (ls : Array Slot), rng x107_4 → rng x107_5 → Hp g B s h H locs → lv_has ls 10 [(0, .ref (B + a0)), (1, .int (ii a1)), (3, .int (ii a3)), (4, .int (ii x107_4)), (5, .int (ii x107_5))] → j x107_4 x107_5 h = some o → W p l e (rmn 5) s m args below meth c H locs 0 0 Q (F0 m 107 ls [])) ?_ (fun j107 hj107 hf => ?_)
            · intro x107_4 x107_5 h H locs ls rx107_4 rx107_5 hp hl hf
              refine lv_aload_n cx.1 cx.2.1 dX12_sub_107 rfl (lv_at hl 0 rfl) ?_
              refine lv_iload_n cx.1 cx.2.1 dX12_sub_108 rfl (lv_at hl 1 rfl) ?_
              refine lv_iload cx.1 cx.2.1 dX12_sub_109 (lv_at hl 4 rfl) ?_
              refine z_cv cx hp (fun o' hx => zrunV (n := 5) (As := [.int (ii a1), .int (ii x107_5)]) (rest := []) cx hp (mX12_like F l g B h a0 a1 x107_5 ra0 ra1 rx107_5 o' hx) 12 ra0 (by decide) rfl vw_X12_like ml_X12_301 (by decide) rfl hl.1 rfl (Nat.le_of_ble_eq_true rfl) dX12_sub_111) hf (fun _ h H locs hp hf => ?_)
              refine z_iconst cx dX12_sub_114 ?_
              refine lv_istore (lv' := [(6, .int (ii 0)), (0, .ref (B + a0)), (1, .int (ii a1)), (3, .int (ii a3)), (4, .int (ii x107_4)), (5, .int (ii x107_5))]) cx.1 cx.2.1 dX12_sub_115 hl (by decide) rfl (fun ls hl => ?_)
              refine z_jn hf (fun j => ∀ (x272_5 : Int) (h : HF) (H : Heap) (locs : List Loc) (ls : Array Slot), rng x272_5 → Hp g B s h H locs → lv_has ls 10 [(0, .ref (B + a0)), (3, .int (ii a3)), (5, .int (ii x272_5))] → j x272_5 h = some o → W p l e (rmn 5) s m args below meth c H locs 0 0 Q (F0 m 272 ls [])) ?_ (fun j272 hj272 hf => ?_)
              · intro x272_5 h H locs ls rx272_5 hp hl hf
                refine lv_aload_n cx.1 cx.2.1 dX12_sub_272 rfl (lv_at hl 0 rfl) ?_
                refine lv_iload_n cx.1 cx.2.1 dX12_sub_273 rfl (lv_at hl 1 rfl) ?_
                refine z_cv cx hp (fun o' hx => zrunV (n := 5) (As := [.int (ii a3)]) (rest := []) cx hp (mX12_keep F l g B h a0 a3 ra0 ra3 o' hx) 12 ra0 (by decide) rfl vw_X12_keep ml_X12_153 (by decide) rfl hl.1 rfl (Nat.le_of_ble_eq_true rfl) dX12_sub_274) hf (fun _ h H locs hp hf => ?_)
                refine lv_aload_n cx.1 cx.2.1 dX12_sub_277 rfl (lv_at hl 0 rfl) ?_
                refine z_bipush cx (by decide) dX12_sub_278 ?_
                refine lv_iload_n cx.1 cx.2.1 dX12_sub_280 rfl (lv_at hl 1 rfl) ?_
                refine z_cv cx hp (fun o' hx => zrunV (n := 5) (As := [.int (ii 8), .int (ii a3)]) (rest := []) cx hp (mX12_copy F l g B h a0 8 a3 ra0 (by decide) ra3 o' hx) 12 ra0 (by decide) rfl vw_X12_copy ml_X12_202 (by decide) rfl hl.1 rfl (Nat.le_of_ble_eq_true rfl) dX12_sub_281) hf (fun _ h H locs hp hf => ?_)
                refine lv_iload cx.1 cx.2.1 dX12_sub_284 (lv_at hl 2 rfl) ?_
                rw [hQ]; exact z_iret cx hp rx272_5 dX12_sub_286 hf
              exact wX12_sub_117 F cx a0 ra0 a1 ra1 a3 ra3 x107_4 rx107_4 x107_5 rx107_5 j272 hj272 F 0 h _ _ ls (by decide) hp (lv_sub hl [1, 2, 3, 4, 5, 0] rfl) hf
            exact wX12_sub_67 F cx a0 ra0 a1 ra1 a3 ra3 y50_0 ry50_0 j107 hj107 F 0 0 h _ _ ls (by decide) (by decide) hp (lv_sub hl [3, 4, 5, 2, 1, 0] rfl) hf
        refine z_if_ge cx ra2 (tgt := 44) dX12_sub_37 (by decide) hf (fun _ hf => ?_) (fun _ hf => ?_)
        · refine z_iconst cx dX12_sub_40 ?_
          refine lv_goto (tgt := 50) cx.1 cx.2.1 dX12_sub_41 (by decide) ?_
          exact hj50 (-1) h _ _ ls (by decide) hp (lv_sub hl [0, 1, 3] rfl) hf
        · refine lv_aload_n cx.1 cx.2.1 dX12_sub_44 rfl (lv_at hl 0 rfl) ?_
          refine lv_iload_n cx.1 cx.2.1 dX12_sub_45 rfl (lv_at hl 1 rfl) ?_
          refine lv_iload_n cx.1 cx.2.1 dX12_sub_46 rfl (lv_at hl 2 rfl) ?_
          refine z_ci cx hp (fun o' hx => zrunV (n := 5) (As := [.int (ii a1), .int (ii a2)]) (rest := []) cx hp (mX12_partOf F l g B h a0 a1 a2 ra0 ra1 ra2 o' hx) 12 ra0 (by decide) rfl vw_X12_partOf ml_X12_298 (by decide) rfl hl.1 rfl (Nat.le_of_ble_eq_true rfl) dX12_sub_47) hf (fun r23 h H locs rr23 hp hf => ?_)
          exact hj50 r23 h _ _ ls rr23 hp (lv_sub hl [0, 1, 3] rfl) hf
theorem dX12_isLine_0 : decode cX12_isLine 0 = .ok (.iconst 0, 1) := by decide +kernel
theorem dX12_isLine_1 : decode cX12_isLine 1 = .ok (.istore_n 2, 1) := by decide +kernel
theorem dX12_isLine_2 : decode cX12_isLine 2 = .ok (.iload_n 2, 1) := by decide +kernel
theorem dX12_isLine_3 : decode cX12_isLine 3 = .ok (.iload_n 1, 1) := by decide +kernel
theorem dX12_isLine_4 : decode cX12_isLine 4 = .ok (.if_icmp .ge 41, 3) := by decide +kernel
theorem dX12_isLine_7 : decode cX12_isLine 7 = .ok (.aload_n 0, 1) := by decide +kernel
theorem dX12_isLine_8 : decode cX12_isLine 8 = .ok (.getfield 85, 3) := by decide +kernel
theorem dX12_isLine_11 : decode cX12_isLine 11 = .ok (.iload_n 2, 1) := by decide +kernel
theorem dX12_isLine_12 : decode cX12_isLine 12 = .ok (.iaload, 1) := by decide +kernel
theorem dX12_isLine_13 : decode cX12_isLine 13 = .ok (.iload_n 2, 1) := by decide +kernel
theorem dX12_isLine_14 : decode cX12_isLine 14 = .ok (.if_icmp .gt 23, 3) := by decide +kernel
theorem dX12_isLine_17 : decode cX12_isLine 17 = .ok (.aload_n 0, 1) := by decide +kernel
theorem dX12_isLine_18 : decode cX12_isLine 18 = .ok (.getfield 85, 3) := by decide +kernel
theorem dX12_isLine_21 : decode cX12_isLine 21 = .ok (.aload_n 0, 1) := by decide +kernel
theorem dX12_isLine_22 : decode cX12_isLine 22 = .ok (.getfield 85, 3) := by decide +kernel
theorem dX12_isLine_25 : decode cX12_isLine 25 = .ok (.iload_n 2, 1) := by decide +kernel
theorem dX12_isLine_26 : decode cX12_isLine 26 = .ok (.iaload, 1) := by decide +kernel
theorem dX12_isLine_27 : decode cX12_isLine 27 = .ok (.iaload, 1) := by decide +kernel
theorem dX12_isLine_28 : decode cX12_isLine 28 = .ok (.aload_n 0, 1) := by decide +kernel
theorem dX12_isLine_29 : decode cX12_isLine 29 = .ok (.getfield 85, 3) := by decide +kernel
theorem dX12_isLine_32 : decode cX12_isLine 32 = .ok (.iload_n 2, 1) := by decide +kernel
theorem dX12_isLine_33 : decode cX12_isLine 33 = .ok (.iaload, 1) := by decide +kernel
theorem dX12_isLine_34 : decode cX12_isLine 34 = .ok (.if_icmp .eq 5, 3) := by decide +kernel
theorem dX12_isLine_39 : decode cX12_isLine 39 = .ok (.iinc 2 1, 3) := by decide +kernel
theorem dX12_isLine_42 : decode cX12_isLine 42 = .ok (.goto (-40), 3) := by decide +kernel
theorem dX12_isLine_37 : decode cX12_isLine 37 = .ok (.iconst 0, 1) := by decide +kernel
theorem dX12_isLine_38 : decode cX12_isLine 38 = .ok (.ireturn, 1) := by decide +kernel
theorem dX12_isLine_45 : decode cX12_isLine 45 = .ok (.iconst 1, 1) := by decide +kernel
theorem dX12_isLine_46 : decode cX12_isLine 46 = .ok (.ireturn, 1) := by decide +kernel
def LX12_isLine_2 (F : Nat) (u0 : Nat) (u1 : Int) (k45 : HF → RO) (k37 : HF → RO) : Nat → Int → HF → RO
  | 0, _, _ => none
  | n + 1, v2, h =>
    if v2 < u1 then (
      zrd h (u0 + 26) v2 fun x1 =>
      if v2 < x1 then (
        k37  h
      ) else (
        zrd h (u0 + 26) v2 fun x2 =>
        zrd h (u0 + 26) x2 fun x3 =>
        zrd h (u0 + 26) v2 fun x4 =>
        if x3 = x4 then (
          zlet (wr (v2 + 1)) fun x5 =>
          LX12_isLine_2 F u0 u1 k45 k37 n x5 h
        ) else (
          k37  h
        )
      )
    ) else (
      k45  h
    )
set_option maxHeartbeats 4000000 in
set_option maxRecDepth 100000 in
theorem wX12_isLine_2 {p : Program} {l : Launch} {e : Env} {s : State} {m : MethodId} {args : Array Value} {below : List Frame} {meth : Method} {c : Code} {Q : State → Prop} {g : zG} {B : Nat} {o : Int × HF} (F : Nat) (cx : Cx p s m args meth c cX12_isLine 3 RX12 (some .boolean) g B) (u0 : Nat) (ru0 : kt u0 = 15) (u1 : Int) (ru1 : rng u1) (k45 : HF → RO) (hk45 : ∀  (h : HF) (H : Heap) (locs : List Loc) (ls : Array Slot), Hp g B s h H locs → lv_has ls 3 [] → k45  h = some o → W p l e (rmn 0) s m args below meth c H locs 0 0 Q (F0 m 45 ls [])) (k37 : HF → RO) (hk37 : ∀  (h : HF) (H : Heap) (locs : List Loc) (ls : Array Slot), Hp g B s h H locs → lv_has ls 3 [] → k37  h = some o → W p l e (rmn 0) s m args below meth c H locs 0 0 Q (F0 m 37 ls [])) : ∀ (n : Nat) (v2 : Int) (h : HF) (H : Heap) (locs : List Loc) (ls : Array Slot), rng v2 → Hp g B s h H locs → lv_has ls 3 [(0, .ref (B + u0)), (1, .int (ii u1)), (2, .int (ii v2))] → LX12_isLine_2 F u0 u1 k45 k37 n v2 h = some o → W p l e (rmn 0) s m args below meth c H locs 0 0 Q (F0 m 2 ls []) := by
  intro n
  induction n with
  | zero =>
    intro v2 h H locs ls rv2 hp hl hf
    cases hf
  | succ n ih =>
    intro v2 h H locs ls rv2 hp hl hf
    rw [LX12_isLine_2] at hf
    refine lv_iload_n cx.1 cx.2.1 dX12_isLine_2 rfl (lv_at hl 2 rfl) ?_
    refine lv_iload_n cx.1 cx.2.1 dX12_isLine_3 rfl (lv_at hl 1 rfl) ?_
    refine z_icmp_ge cx rv2 ru1 (tgt := 45) dX12_isLine_4 (by decide) hf (fun _ hf => ?_) (fun _ hf => ?_)
    · refine lv_aload_n cx.1 cx.2.1 dX12_isLine_7 rfl (lv_at hl 0 rfl) ?_
      refine z_gets cx hp (T := TX12) 12 42 (u0 + 26) rfl zin_12 (by decide) (by decide) ru0 rfl fl_X12_85 dX12_isLine_8 ?_
      refine lv_iload_n cx.1 cx.2.1 dX12_isLine_11 rfl (lv_at hl 2 rfl) ?_
      refine z_iald cx hp (zs_12_42 u0 (kt_lt ru0 (by decide)) ru0) rv2 dX12_isLine_12 hf (fun x1 rx1 hf => ?_)
      refine lv_iload_n cx.1 cx.2.1 dX12_isLine_13 rfl (lv_at hl 2 rfl) ?_
      refine z_icmp_gt cx rx1 rv2 (tgt := 37) dX12_isLine_14 (by decide) hf (fun _ hf => ?_) (fun _ hf => ?_)
      · exact hk37  h _ _ ls  hp (lv_sub hl [] rfl) hf
      · refine lv_aload_n cx.1 cx.2.1 dX12_isLine_17 rfl (lv_at hl 0 rfl) ?_
        refine z_gets cx hp (T := TX12) 12 42 (u0 + 26) rfl zin_12 (by decide) (by decide) ru0 rfl fl_X12_85 dX12_isLine_18 ?_
        refine lv_aload_n cx.1 cx.2.1 dX12_isLine_21 rfl (lv_at hl 0 rfl) ?_
        refine z_gets cx hp (T := TX12) 12 42 (u0 + 26) rfl zin_12 (by decide) (by decide) ru0 rfl fl_X12_85 dX12_isLine_22 ?_
        refine lv_iload_n cx.1 cx.2.1 dX12_isLine_25 rfl (lv_at hl 2 rfl) ?_
        refine z_iald cx hp (zs_12_42 u0 (kt_lt ru0 (by decide)) ru0) rv2 dX12_isLine_26 hf (fun x2 rx2 hf => ?_)
        refine z_iald cx hp (zs_12_42 u0 (kt_lt ru0 (by decide)) ru0) rx2 dX12_isLine_27 hf (fun x3 rx3 hf => ?_)
        refine lv_aload_n cx.1 cx.2.1 dX12_isLine_28 rfl (lv_at hl 0 rfl) ?_
        refine z_gets cx hp (T := TX12) 12 42 (u0 + 26) rfl zin_12 (by decide) (by decide) ru0 rfl fl_X12_85 dX12_isLine_29 ?_
        refine lv_iload_n cx.1 cx.2.1 dX12_isLine_32 rfl (lv_at hl 2 rfl) ?_
        refine z_iald cx hp (zs_12_42 u0 (kt_lt ru0 (by decide)) ru0) rv2 dX12_isLine_33 hf (fun x4 rx4 hf => ?_)
        refine z_icmp_eq cx rx3 rx4 (tgt := 39) dX12_isLine_34 (by decide) hf (fun _ hf => ?_) (fun _ hf => ?_)
        · refine z_iinc cx (fun x5 => [(2, .int (ii x5)), (0, .ref (B + u0)), (1, .int (ii u1))]) dX12_isLine_39 hl (k := 2) rfl (by decide) (fun _ => rfl) hf (fun x5 rx5 hf ls hl => ?_)
          refine lv_goto (tgt := 2) cx.1 cx.2.1 dX12_isLine_42 (by decide) ?_
          exact ih x5 h _ _ ls rx5 hp (lv_sub hl [1, 2, 0] rfl) hf
        · exact hk37  h _ _ ls  hp (lv_sub hl [] rfl) hf
    · exact hk45  h _ _ ls  hp (lv_sub hl [] rfl) hf
def fX12_isLine (F : Nat) (a0 : Nat) (a1 : Int) (h : HF) : RO :=
  zjn (fun  (h : HF) => (
    zrz 1 h
  )) fun j45 =>
  zjn (fun  (h : HF) => (
    zrz 0 h
  )) fun j37 =>
  LX12_isLine_2 F a0 a1 j45 j37 F 0 h
set_option maxHeartbeats 4000000 in
set_option maxRecDepth 100000 in
theorem mX12_isLine (F : Nat) (l : Launch) (g : zG) (B : Nat) (h : HF) (a0 : Nat) (a1 : Int) (ra0 : kt a0 = 15) (ra1 : rng a1) : CTi l g B yX12_isLine cX12_isLine 3 (some .boolean) 0 [.ref (B + a0), .int (ii a1)] h (fX12_isLine F a0 a1 h) := by
  refine z_enterI (by decide) rfl (Nat.le_of_ble_eq_true rfl) ?_
  intro p e s m args below meth c ls o Q cx hp hl hf hQ
  have hl : lv_has ls 3 [(0, .ref (B + a0)), (1, .int (ii a1))] := hl
  unfold fX12_isLine at hf
  refine z_iconst cx dX12_isLine_0 ?_
  refine lv_istore_n (lv' := [(2, .int (ii 0)), (0, .ref (B + a0)), (1, .int (ii a1))]) cx.1 cx.2.1 dX12_isLine_1 rfl hl (by decide) rfl (fun ls hl => ?_)
  refine z_jn hf (fun j => ∀  (h : HF) (H : Heap) (locs : List Loc) (ls : Array Slot), Hp g B s h H locs → lv_has ls 3 [] → j  h = some o → W p l e (rmn 0) s m args below meth c H locs 0 0 Q (F0 m 45 ls [])) ?_ (fun j45 hj45 hf => ?_)
  · intro  h H locs ls  hp hl hf
    refine z_iconst cx dX12_isLine_45 ?_
    rw [hQ]; exact z_zret cx hp dX12_isLine_46 hf
  refine z_jn hf (fun j => ∀  (h : HF) (H : Heap) (locs : List Loc) (ls : Array Slot), Hp g B s h H locs → lv_has ls 3 [] → j  h = some o → W p l e (rmn 0) s m args below meth c H locs 0 0 Q (F0 m 37 ls [])) ?_ (fun j37 hj37 hf => ?_)
  · intro  h H locs ls  hp hl hf
    refine z_iconst cx dX12_isLine_37 ?_
    rw [hQ]; exact z_zret cx hp dX12_isLine_38 hf
  exact wX12_isLine_2 F cx a0 ra0 a1 ra1 j45 hj45 j37 hj37 F 0 h _ _ ls (by decide) hp (lv_sub hl [1, 2, 0] rfl) hf
