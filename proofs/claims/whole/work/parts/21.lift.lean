theorem dX10_readLaws_0 : decode cX10_readLaws 0 = .ok (.aload_n 0, 1) := by decide +kernel
theorem dX10_readLaws_1 : decode cX10_readLaws 1 = .ok (.aload_n 1, 1) := by decide +kernel
theorem dX10_readLaws_2 : decode cX10_readLaws 2 = .ok (.invokevirtual 43, 3) := by decide +kernel
theorem dX10_readLaws_5 : decode cX10_readLaws 5 = .ok (.aload_n 0, 1) := by decide +kernel
theorem dX10_readLaws_6 : decode cX10_readLaws 6 = .ok (.invokevirtual 91, 3) := by decide +kernel
theorem dX10_readLaws_9 : decode cX10_readLaws 9 = .ok (.aload_n 0, 1) := by decide +kernel
theorem dX10_readLaws_10 : decode cX10_readLaws 10 = .ok (.aload_n 2, 1) := by decide +kernel
theorem dX10_readLaws_11 : decode cX10_readLaws 11 = .ok (.putfield 94, 3) := by decide +kernel
theorem dX10_readLaws_14 : decode cX10_readLaws 14 = .ok (.aload_n 0, 1) := by decide +kernel
theorem dX10_readLaws_15 : decode cX10_readLaws 15 = .ok (.getfield 94, 3) := by decide +kernel
theorem dX10_readLaws_18 : decode cX10_readLaws 18 = .ok (.invokevirtual 98, 3) := by decide +kernel
theorem dX10_readLaws_21 : decode cX10_readLaws 21 = .ok (.iconst 1, 1) := by decide +kernel
theorem dX10_readLaws_22 : decode cX10_readLaws 22 = .ok (.istore_n 3, 1) := by decide +kernel
theorem dX10_readLaws_23 : decode cX10_readLaws 23 = .ok (.iconst 1, 1) := by decide +kernel
theorem dX10_readLaws_24 : decode cX10_readLaws 24 = .ok (.istore 4, 2) := by decide +kernel
theorem dX10_readLaws_26 : decode cX10_readLaws 26 = .ok (.iconst 0, 1) := by decide +kernel
theorem dX10_readLaws_27 : decode cX10_readLaws 27 = .ok (.istore 5, 2) := by decide +kernel
theorem dX10_readLaws_29 : decode cX10_readLaws 29 = .ok (.iload 5, 2) := by decide +kernel
theorem dX10_readLaws_31 : decode cX10_readLaws 31 = .ok (.bipush 6, 2) := by decide +kernel
theorem dX10_readLaws_33 : decode cX10_readLaws 33 = .ok (.if_icmp .gt 43, 3) := by decide +kernel
theorem dX10_readLaws_36 : decode cX10_readLaws 36 = .ok (.iload_n 3, 1) := by decide +kernel
theorem dX10_readLaws_37 : decode cX10_readLaws 37 = .ok (.ifCond .eq 39, 3) := by decide +kernel
theorem dX10_readLaws_40 : decode cX10_readLaws 40 = .ok (.iload 4, 2) := by decide +kernel
theorem dX10_readLaws_42 : decode cX10_readLaws 42 = .ok (.ifCond .eq 34, 3) := by decide +kernel
theorem dX10_readLaws_45 : decode cX10_readLaws 45 = .ok (.aload_n 0, 1) := by decide +kernel
theorem dX10_readLaws_46 : decode cX10_readLaws 46 = .ok (.invokevirtual 103, 3) := by decide +kernel
theorem dX10_readLaws_49 : decode cX10_readLaws 49 = .ok (.istore_n 3, 1) := by decide +kernel
theorem dX10_readLaws_50 : decode cX10_readLaws 50 = .ok (.iload_n 3, 1) := by decide +kernel
theorem dX10_readLaws_51 : decode cX10_readLaws 51 = .ok (.ifCond .eq 16, 3) := by decide +kernel
theorem dX10_readLaws_54 : decode cX10_readLaws 54 = .ok (.aload_n 0, 1) := by decide +kernel
theorem dX10_readLaws_55 : decode cX10_readLaws 55 = .ok (.bipush 59, 2) := by decide +kernel
theorem dX10_readLaws_57 : decode cX10_readLaws 57 = .ok (.invokevirtual 107, 3) := by decide +kernel
theorem dX10_readLaws_60 : decode cX10_readLaws 60 = .ok (.ifCond .eq 7, 3) := by decide +kernel
theorem dX10_readLaws_63 : decode cX10_readLaws 63 = .ok (.iconst 1, 1) := by decide +kernel
theorem dX10_readLaws_64 : decode cX10_readLaws 64 = .ok (.goto 4, 3) := by decide +kernel
theorem dX10_readLaws_67 : decode cX10_readLaws 67 = .ok (.iconst 0, 1) := by decide +kernel
theorem dX10_readLaws_68 : decode cX10_readLaws 68 = .ok (.istore 4, 2) := by decide +kernel
theorem dX10_readLaws_70 : decode cX10_readLaws 70 = .ok (.iinc 5 1, 3) := by decide +kernel
theorem dX10_readLaws_73 : decode cX10_readLaws 73 = .ok (.goto (-44), 3) := by decide +kernel
theorem dX10_readLaws_76 : decode cX10_readLaws 76 = .ok (.iload_n 3, 1) := by decide +kernel
theorem dX10_readLaws_77 : decode cX10_readLaws 77 = .ok (.ifCond .eq 22, 3) := by decide +kernel
theorem dX10_readLaws_80 : decode cX10_readLaws 80 = .ok (.aload_n 0, 1) := by decide +kernel
theorem dX10_readLaws_81 : decode cX10_readLaws 81 = .ok (.getfield 9, 3) := by decide +kernel
theorem dX10_readLaws_84 : decode cX10_readLaws 84 = .ok (.aload_n 0, 1) := by decide +kernel
theorem dX10_readLaws_85 : decode cX10_readLaws 85 = .ok (.getfield 28, 3) := by decide +kernel
theorem dX10_readLaws_88 : decode cX10_readLaws 88 = .ok (.iaload, 1) := by decide +kernel
theorem dX10_readLaws_89 : decode cX10_readLaws 89 = .ok (.iconst (-1), 1) := by decide +kernel
theorem dX10_readLaws_90 : decode cX10_readLaws 90 = .ok (.if_icmp .eq 9, 3) := by decide +kernel
theorem dX10_readLaws_93 : decode cX10_readLaws 93 = .ok (.aload_n 0, 1) := by decide +kernel
theorem dX10_readLaws_94 : decode cX10_readLaws 94 = .ok (.iconst 1, 1) := by decide +kernel
theorem dX10_readLaws_95 : decode cX10_readLaws 95 = .ok (.invokevirtual 111, 3) := by decide +kernel
theorem dX10_readLaws_98 : decode cX10_readLaws 98 = .ok (.istore_n 3, 1) := by decide +kernel
theorem dX10_readLaws_99 : decode cX10_readLaws 99 = .ok (.iload_n 3, 1) := by decide +kernel
theorem dX10_readLaws_100 : decode cX10_readLaws 100 = .ok (.ifCond .eq 7, 3) := by decide +kernel
theorem dX10_readLaws_103 : decode cX10_readLaws 103 = .ok (.aload_n 0, 1) := by decide +kernel
theorem dX10_readLaws_104 : decode cX10_readLaws 104 = .ok (.invokevirtual 114, 3) := by decide +kernel
theorem dX10_readLaws_107 : decode cX10_readLaws 107 = .ok (.aload_n 1, 1) := by decide +kernel
theorem dX10_readLaws_108 : decode cX10_readLaws 108 = .ok (.iconst 0, 1) := by decide +kernel
theorem dX10_readLaws_109 : decode cX10_readLaws 109 = .ok (.putfield 38, 3) := by decide +kernel
theorem dX10_readLaws_112 : decode cX10_readLaws 112 = .ok (.return_, 1) := by decide +kernel
def LX10_readLaws_29 (F : Nat) (u0 : Nat) (u1 : Nat) (k76 : Int → HF → RO) : Nat → Int → Int → Int → HF → RO
  | 0, _, _, _, _ => none
  | n + 1, v3, v4, v5, h =>
    if 6 < v5 then (
      k76 v3 h
    ) else (
      if v3 = 0 then (
        k76 v3 h
      ) else (
        if v4 = 0 then (
          k76 v3 h
        ) else (
          zbd (fX10_readLaw F u0 h) fun r9 h =>
          zjn (fun (x68_3 : Int) (x68_5 : Int) (y68_0 : Int) (h : HF) => (
            zlet (wr (x68_5 + 1)) fun x10 =>
            LX10_readLaws_29 F u0 u1 k76 n x68_3 y68_0 x10 h
          )) fun j68 =>
          zjn (fun (x67_3 : Int) (x67_5 : Int) (h : HF) => (
            j68 x67_3 x67_5 0 h
          )) fun j67 =>
          if r9 = 0 then (
            j67 r9 v5 h
          ) else (
            zbd (fX10_takes F u0 59 h) fun r11 h =>
            if r11 = 0 then (
              j67 r9 v5 h
            ) else (
              j68 r9 v5 1 h
            )
          )
        )
      )
    )
set_option maxHeartbeats 4000000 in
set_option maxRecDepth 100000 in
theorem wX10_readLaws_29 {p : Program} {l : Launch} {e : Env} {s : State} {m : MethodId} {args : Array Value} {below : List Frame} {meth : Method} {c : Code} {Q : State → Prop} {g : zG} {B : Nat} {o : Int × HF} (F : Nat) (cx : Cx p s m args meth c cX10_readLaws 6 RX10 none g B) (u0 : Nat) (ru0 : kt u0 = 13) (u1 : Nat) (ru1 : kt u1 = 4) (k76 : Int → HF → RO) (hk76 : ∀ (x3 : Int) (h : HF) (H : Heap) (locs : List Loc) (ls : Array Slot), rng x3 → Hp g B s h H locs → lv_has ls 6 [(0, .ref (B + u0)), (1, .ref (B + u1)), (3, .int (ii x3))] → k76 x3 h = some o → W p l e (rmn 35) s m args below meth c H locs 0 0 Q (F0 m 76 ls [])) : ∀ (n : Nat) (v3 : Int) (v4 : Int) (v5 : Int) (h : HF) (H : Heap) (locs : List Loc) (ls : Array Slot), rng v3 → rng v4 → rng v5 → Hp g B s h H locs → lv_has ls 6 [(0, .ref (B + u0)), (1, .ref (B + u1)), (3, .int (ii v3)), (4, .int (ii v4)), (5, .int (ii v5))] → LX10_readLaws_29 F u0 u1 k76 n v3 v4 v5 h = some o → W p l e (rmn 35) s m args below meth c H locs 0 0 Q (F0 m 29 ls []) := by
  intro n
  induction n with
  | zero =>
    intro v3 v4 v5 h H locs ls rv3 rv4 rv5 hp hl hf
    cases hf
  | succ n ih =>
    intro v3 v4 v5 h H locs ls rv3 rv4 rv5 hp hl hf
    rw [LX10_readLaws_29] at hf
    refine lv_iload cx.1 cx.2.1 dX10_readLaws_29 (lv_at hl 4 rfl) ?_
    refine z_bipush cx (by decide) dX10_readLaws_31 ?_
    refine z_icmp_gt cx rv5 (by decide) (tgt := 76) dX10_readLaws_33 (by decide) hf (fun _ hf => ?_) (fun _ hf => ?_)
    · exact hk76 v3 h _ _ ls rv3 hp (lv_sub hl [0, 1, 2] rfl) hf
    · refine lv_iload_n cx.1 cx.2.1 dX10_readLaws_36 rfl (lv_at hl 2 rfl) ?_
      refine z_if_eq cx rv3 (tgt := 76) dX10_readLaws_37 (by decide) hf (fun _ hf => ?_) (fun _ hf => ?_)
      · exact hk76 v3 h _ _ ls rv3 hp (lv_sub hl [0, 1, 2] rfl) hf
      · refine lv_iload cx.1 cx.2.1 dX10_readLaws_40 (lv_at hl 3 rfl) ?_
        refine z_if_eq cx rv4 (tgt := 76) dX10_readLaws_42 (by decide) hf (fun _ hf => ?_) (fun _ hf => ?_)
        · exact hk76 v3 h _ _ ls rv3 hp (lv_sub hl [0, 1, 2] rfl) hf
        · refine lv_aload_n cx.1 cx.2.1 dX10_readLaws_45 rfl (lv_at hl 0 rfl) ?_
          refine z_ci cx hp (fun o' hx => zrunV (n := 35) (As := []) (rest := []) cx hp (mX10_readLaw F l g B h u0 ru0 o' hx) 10 ru0 (by decide) rfl vw_X10_readLaw ml_X10_103 (by decide) rfl hl.1 rfl (Nat.le_of_ble_eq_true rfl) dX10_readLaws_46) hf (fun r9 h H locs rr9 hp hf => ?_)
          refine lv_istore_n (lv' := [(3, .int (ii r9)), (0, .ref (B + u0)), (1, .ref (B + u1)), (4, .int (ii v4)), (5, .int (ii v5))]) cx.1 cx.2.1 dX10_readLaws_49 rfl hl (by decide) rfl (fun ls hl => ?_)
          refine lv_iload_n cx.1 cx.2.1 dX10_readLaws_50 rfl (lv_at hl 0 rfl) ?_
          refine z_jn hf (fun j => ∀ (x68_3 : Int) (x68_5 : Int) (y68_0 : Int) (h : HF) (H : Heap) (locs : List Loc) (ls : Array Slot), rng x68_3 → rng x68_5 → rng y68_0 → Hp g B s h H locs → lv_has ls 6 [(0, .ref (B + u0)), (1, .ref (B + u1)), (3, .int (ii x68_3)), (5, .int (ii x68_5))] → j x68_3 x68_5 y68_0 h = some o → W p l e (rmn 35) s m args below meth c H locs 0 0 Q (F0 m 68 ls [.int (ii y68_0)])) ?_ (fun j68 hj68 hf => ?_)
          · intro x68_3 x68_5 y68_0 h H locs ls rx68_3 rx68_5 ry68_0 hp hl hf
            refine lv_istore (lv' := [(4, .int (ii y68_0)), (0, .ref (B + u0)), (1, .ref (B + u1)), (3, .int (ii x68_3)), (5, .int (ii x68_5))]) cx.1 cx.2.1 dX10_readLaws_68 hl (by decide) rfl (fun ls hl => ?_)
            refine z_iinc cx (fun x10 => [(5, .int (ii x10)), (4, .int (ii y68_0)), (0, .ref (B + u0)), (1, .ref (B + u1)), (3, .int (ii x68_3))]) dX10_readLaws_70 hl (k := 4) rfl (by decide) (fun _ => rfl) hf (fun x10 rx10 hf ls hl => ?_)
            refine lv_goto (tgt := 29) cx.1 cx.2.1 dX10_readLaws_73 (by decide) ?_
            exact ih x68_3 y68_0 x10 h _ _ ls rx68_3 ry68_0 rx10 hp (lv_sub hl [2, 3, 4, 1, 0] rfl) hf
          refine z_jn hf (fun j => ∀ (x67_3 : Int) (x67_5 : Int) (h : HF) (H : Heap) (locs : List Loc) (ls : Array Slot), rng x67_3 → rng x67_5 → Hp g B s h H locs → lv_has ls 6 [(0, .ref (B + u0)), (1, .ref (B + u1)), (3, .int (ii x67_3)), (5, .int (ii x67_5))] → j x67_3 x67_5 h = some o → W p l e (rmn 35) s m args below meth c H locs 0 0 Q (F0 m 67 ls [])) ?_ (fun j67 hj67 hf => ?_)
          · intro x67_3 x67_5 h H locs ls rx67_3 rx67_5 hp hl hf
            refine z_iconst cx dX10_readLaws_67 ?_
            exact hj68 x67_3 x67_5 0 h _ _ ls rx67_3 rx67_5 (by decide) hp (lv_sub hl [0, 1, 2, 3] rfl) hf
          refine z_if_eq cx rr9 (tgt := 67) dX10_readLaws_51 (by decide) hf (fun _ hf => ?_) (fun _ hf => ?_)
          · exact hj67 r9 v5 h _ _ ls rr9 rv5 hp (lv_sub hl [1, 2, 0, 4] rfl) hf
          · refine lv_aload_n cx.1 cx.2.1 dX10_readLaws_54 rfl (lv_at hl 1 rfl) ?_
            refine z_bipush cx (by decide) dX10_readLaws_55 ?_
            refine z_ci cx hp (fun o' hx => zrunV (n := 35) (As := [.int (ii 59)]) (rest := []) cx hp (mX10_takes F l g B h u0 59 ru0 (by decide) o' hx) 10 ru0 (by decide) rfl vw_X10_takes ml_X10_107 (by decide) rfl hl.1 rfl (Nat.le_of_ble_eq_true rfl) dX10_readLaws_57) hf (fun r11 h H locs rr11 hp hf => ?_)
            refine z_if_eq cx rr11 (tgt := 67) dX10_readLaws_60 (by decide) hf (fun _ hf => ?_) (fun _ hf => ?_)
            · exact hj67 r9 v5 h _ _ ls rr9 rv5 hp (lv_sub hl [1, 2, 0, 4] rfl) hf
            · refine z_iconst cx dX10_readLaws_63 ?_
              refine lv_goto (tgt := 68) cx.1 cx.2.1 dX10_readLaws_64 (by decide) ?_
              exact hj68 r9 v5 1 h _ _ ls rr9 rv5 (by decide) hp (lv_sub hl [1, 2, 0, 4] rfl) hf
def fX10_readLaws (F : Nat) (a0 : Nat) (a1 : Nat) (a2 : Nat) (h : HF) : RO :=
  zbd (fX10_begin F a0 a1 h) fun _ h =>
  zbd (fX10_gatherSigns F a0 h) fun _ h =>
  zpf h a0 4 ((a2 : Nat) : Int) fun h =>
  zgd h a0 4 fun x3 =>
  zbd (fX4_clear F x3 h) fun _ h =>
  zjn (fun (x76_3 : Int) (h : HF) => (
    zjn (fun (x99_3 : Int) (h : HF) => (
      zjn (fun  (h : HF) => (
        zpf h a1 1 0 fun h =>
        some (0, h)
      )) fun j107 =>
      if x99_3 = 0 then (
        j107  h
      ) else (
        zbd (fX10_compareArguments F a0 h) fun _ h =>
        j107  h
      )
    )) fun j99 =>
    if x76_3 = 0 then (
      j99 x76_3 h
    ) else (
      zgf h a0 3 fun x6 =>
      zrd h (a0 + 1) x6 fun x7 =>
      if x7 = (-1) then (
        j99 x76_3 h
      ) else (
        zbd (fX10_failHere F a0 1 h) fun r8 h =>
        j99 r8 h
      )
    )
  )) fun j76 =>
  LX10_readLaws_29 F a0 a1 j76 F 1 1 0 h
set_option maxHeartbeats 4000000 in
set_option maxRecDepth 100000 in
theorem mX10_readLaws (F : Nat) (l : Launch) (g : zG) (B : Nat) (h : HF) (a0 : Nat) (a1 : Nat) (a2 : Nat) (ra0 : kt a0 = 13) (ra1 : kt a1 = 4) (ra2 : kt a2 = 7) : CTv l g B yX10_readLaws cX10_readLaws 6 35 [.ref (B + a0), .ref (B + a1), .ref (B + a2)] h (fX10_readLaws F a0 a1 a2 h) := by
  refine z_enterV (by decide) rfl (Nat.le_of_ble_eq_true rfl) ?_
  intro p e s m args below meth c ls o Q cx hp hl hf hQ
  have hl : lv_has ls 6 [(0, .ref (B + a0)), (1, .ref (B + a1)), (2, .ref (B + a2))] := hl
  unfold fX10_readLaws at hf
  refine lv_aload_n cx.1 cx.2.1 dX10_readLaws_0 rfl (lv_at hl 0 rfl) ?_
  refine lv_aload_n cx.1 cx.2.1 dX10_readLaws_1 rfl (lv_at hl 1 rfl) ?_
  refine z_cv cx hp (fun o' hx => zrunV (n := 35) (As := [.ref (B + a1)]) (rest := []) cx hp (mX10_begin F l g B h a0 a1 ra0 ra1 o' hx) 10 ra0 (by decide) rfl vw_X10_begin ml_X10_43 (by decide) rfl hl.1 rfl (Nat.le_of_ble_eq_true rfl) dX10_readLaws_2) hf (fun _ h H locs hp hf => ?_)
  refine lv_aload_n cx.1 cx.2.1 dX10_readLaws_5 rfl (lv_at hl 0 rfl) ?_
  refine z_cv cx hp (fun o' hx => zrunV (n := 35) (As := []) (rest := []) cx hp (mX10_gatherSigns F l g B h a0 ra0 o' hx) 10 ra0 (by decide) rfl vw_X10_gatherSigns ml_X10_91 (by decide) rfl hl.1 rfl (Nat.le_of_ble_eq_true rfl) dX10_readLaws_6) hf (fun _ h H locs hp hf => ?_)
  refine lv_aload_n cx.1 cx.2.1 dX10_readLaws_9 rfl (lv_at hl 0 rfl) ?_
  refine lv_aload_n cx.1 cx.2.1 dX10_readLaws_10 rfl (lv_at hl 2 rfl) ?_
  refine z_putd cx hp (T := TX10) tyX10 tyX10_ok nmX10 10 4 7 ra2 rfl zin_10 (by decide) (by decide) ra0 rfl rfl ⟨_, rfl⟩ fl_X10_94 dX10_readLaws_11 hf (fun h H locs hp hf => ?_)
  refine lv_aload_n cx.1 cx.2.1 dX10_readLaws_14 rfl (lv_at hl 0 rfl) ?_
  refine z_getd cx hp (T := TX10) 10 4 7 rfl zin_10 (by decide) (by decide) ra0 rfl fl_X10_94 dX10_readLaws_15 hf (fun x3 rx3 hf => ?_)
  refine z_cv cx hp (fun o' hx => zrunV (n := 35) (As := []) (rest := []) cx hp (mX4_clear F l g B h x3 rx3 o' hx) 4 rx3 (by decide) rfl vw_X4_clear ml_X10_98 (by decide) rfl hl.1 rfl (Nat.le_of_ble_eq_true rfl) dX10_readLaws_18) hf (fun _ h H locs hp hf => ?_)
  refine z_iconst cx dX10_readLaws_21 ?_
  refine lv_istore_n (lv' := [(3, .int (ii 1)), (0, .ref (B + a0)), (1, .ref (B + a1)), (2, .ref (B + a2))]) cx.1 cx.2.1 dX10_readLaws_22 rfl hl (by decide) rfl (fun ls hl => ?_)
  refine z_iconst cx dX10_readLaws_23 ?_
  refine lv_istore (lv' := [(4, .int (ii 1)), (3, .int (ii 1)), (0, .ref (B + a0)), (1, .ref (B + a1)), (2, .ref (B + a2))]) cx.1 cx.2.1 dX10_readLaws_24 hl (by decide) rfl (fun ls hl => ?_)
  refine z_iconst cx dX10_readLaws_26 ?_
  refine lv_istore (lv' := [(5, .int (ii 0)), (4, .int (ii 1)), (3, .int (ii 1)), (0, .ref (B + a0)), (1, .ref (B + a1)), (2, .ref (B + a2))]) cx.1 cx.2.1 dX10_readLaws_27 hl (by decide) rfl (fun ls hl => ?_)
  refine z_jn hf (fun j => ∀ (x76_3 : Int) (h : HF) (H : Heap) (locs : List Loc) (ls : Array Slot), rng x76_3 → Hp g B s h H locs → lv_has ls 6 [(0, .ref (B + a0)), (1, .ref (B + a1)), (3, .int (ii x76_3))] → j x76_3 h = some o → W p l e (rmn 35) s m args below meth c H locs 0 0 Q (F0 m 76 ls [])) ?_ (fun j76 hj76 hf => ?_)
  · intro x76_3 h H locs ls rx76_3 hp hl hf
    refine lv_iload_n cx.1 cx.2.1 dX10_readLaws_76 rfl (lv_at hl 2 rfl) ?_
    refine z_jn hf (fun j => ∀ (x99_3 : Int) (h : HF) (H : Heap) (locs : List Loc) (ls : Array Slot), rng x99_3 → Hp g B s h H locs → lv_has ls 6 [(0, .ref (B + a0)), (1, .ref (B + a1)), (3, .int (ii x99_3))] → j x99_3 h = some o → W p l e (rmn 35) s m args below meth c H locs 0 0 Q (F0 m 99 ls [])) ?_ (fun j99 hj99 hf => ?_)
    · intro x99_3 h H locs ls rx99_3 hp hl hf
      refine lv_iload_n cx.1 cx.2.1 dX10_readLaws_99 rfl (lv_at hl 2 rfl) ?_
      refine z_jn hf (fun j => ∀  (h : HF) (H : Heap) (locs : List Loc) (ls : Array Slot), Hp g B s h H locs → lv_has ls 6 [(1, .ref (B + a1))] → j  h = some o → W p l e (rmn 35) s m args below meth c H locs 0 0 Q (F0 m 107 ls [])) ?_ (fun j107 hj107 hf => ?_)
      · intro  h H locs ls  hp hl hf
        refine lv_aload_n cx.1 cx.2.1 dX10_readLaws_107 rfl (lv_at hl 0 rfl) ?_
        refine z_iconst cx dX10_readLaws_108 ?_
        refine z_puti cx hp (T := TX1) tyX1 tyX1_ok nmX1 1 1 (by decide) rfl zin_1 (by decide) (by decide) ra1 rfl rfl rfl fl_X10_38 dX10_readLaws_109 hf (fun h H locs hp hf => ?_)
        rw [hQ]; exact z_vret cx hp dX10_readLaws_112 hf
      refine z_if_eq cx rx99_3 (tgt := 107) dX10_readLaws_100 (by decide) hf (fun _ hf => ?_) (fun _ hf => ?_)
      · exact hj107  h _ _ ls  hp (lv_sub hl [1] rfl) hf
      · refine lv_aload_n cx.1 cx.2.1 dX10_readLaws_103 rfl (lv_at hl 0 rfl) ?_
        refine z_cv cx hp (fun o' hx => zrunV (n := 35) (As := []) (rest := []) cx hp (mX10_compareArguments F l g B h a0 ra0 o' hx) 10 ra0 (by decide) rfl vw_X10_compareArguments ml_X10_114 (by decide) rfl hl.1 rfl (Nat.le_of_ble_eq_true rfl) dX10_readLaws_104) hf (fun _ h H locs hp hf => ?_)
        exact hj107  h _ _ ls  hp (lv_sub hl [1] rfl) hf
    refine z_if_eq cx rx76_3 (tgt := 99) dX10_readLaws_77 (by decide) hf (fun _ hf => ?_) (fun _ hf => ?_)
    · exact hj99 x76_3 h _ _ ls rx76_3 hp (lv_sub hl [0, 1, 2] rfl) hf
    · refine lv_aload_n cx.1 cx.2.1 dX10_readLaws_80 rfl (lv_at hl 0 rfl) ?_
      refine z_gets cx hp (T := TX10) 10 5 (a0 + 1) rfl zin_10 (by decide) (by decide) ra0 rfl fl_X10_9 dX10_readLaws_81 ?_
      refine lv_aload_n cx.1 cx.2.1 dX10_readLaws_84 rfl (lv_at hl 0 rfl) ?_
      refine z_geti cx hp (T := TX10) 10 3 rfl zin_10 (by decide) (by decide) ra0 rfl fl_X10_28 dX10_readLaws_85 hf (fun x6 rx6 hf => ?_)
      refine z_iald cx hp (zs_10_5 a0 (kt_lt ra0 (by decide)) ra0) rx6 dX10_readLaws_88 hf (fun x7 rx7 hf => ?_)
      refine z_iconst cx dX10_readLaws_89 ?_
      refine z_icmp_eq cx rx7 (by decide) (tgt := 99) dX10_readLaws_90 (by decide) hf (fun _ hf => ?_) (fun _ hf => ?_)
      · exact hj99 x76_3 h _ _ ls rx76_3 hp (lv_sub hl [0, 1, 2] rfl) hf
      · refine lv_aload_n cx.1 cx.2.1 dX10_readLaws_93 rfl (lv_at hl 0 rfl) ?_
        refine z_iconst cx dX10_readLaws_94 ?_
        refine z_ci cx hp (fun o' hx => zrunV (n := 35) (As := [.int (ii 1)]) (rest := []) cx hp (mX10_failHere F l g B h a0 1 ra0 (by decide) o' hx) 10 ra0 (by decide) rfl vw_X10_failHere ml_X10_111 (by decide) rfl hl.1 rfl (Nat.le_of_ble_eq_true rfl) dX10_readLaws_95) hf (fun r8 h H locs rr8 hp hf => ?_)
        refine lv_istore_n (lv' := [(3, .int (ii r8)), (0, .ref (B + a0)), (1, .ref (B + a1))]) cx.1 cx.2.1 dX10_readLaws_98 rfl hl (by decide) rfl (fun ls hl => ?_)
        exact hj99 r8 h _ _ ls rr8 hp (lv_sub hl [1, 2, 0] rfl) hf
  exact wX10_readLaws_29 F cx a0 ra0 a1 ra1 j76 hj76 F 1 1 0 h _ _ ls (by decide) (by decide) (by decide) hp (lv_sub hl [3, 4, 2, 1, 0] rfl) hf
theorem dX11_laws_0 : decode cX11_laws 0 = .ok (.iload_n 1, 1) := by decide +kernel
theorem dX11_laws_1 : decode cX11_laws 1 = .ok (.invokestatic 217, 3) := by decide +kernel
theorem dX11_laws_4 : decode cX11_laws 4 = .ok (.ifCond .ne 17, 3) := by decide +kernel
theorem dX11_laws_7 : decode cX11_laws 7 = .ok (.aload_n 0, 1) := by decide +kernel
theorem dX11_laws_8 : decode cX11_laws 8 = .ok (.getfield 53, 3) := by decide +kernel
theorem dX11_laws_11 : decode cX11_laws 11 = .ok (.aload_n 0, 1) := by decide +kernel
theorem dX11_laws_12 : decode cX11_laws 12 = .ok (.getfield 14, 3) := by decide +kernel
theorem dX11_laws_15 : decode cX11_laws 15 = .ok (.invokevirtual 191, 3) := by decide +kernel
theorem dX11_laws_18 : decode cX11_laws 18 = .ok (.bipush (-3), 2) := by decide +kernel
theorem dX11_laws_20 : decode cX11_laws 20 = .ok (.ireturn, 1) := by decide +kernel
theorem dX11_laws_21 : decode cX11_laws 21 = .ok (.aload_n 0, 1) := by decide +kernel
theorem dX11_laws_22 : decode cX11_laws 22 = .ok (.getfield 53, 3) := by decide +kernel
theorem dX11_laws_25 : decode cX11_laws 25 = .ok (.aload_n 0, 1) := by decide +kernel
theorem dX11_laws_26 : decode cX11_laws 26 = .ok (.getfield 14, 3) := by decide +kernel
theorem dX11_laws_29 : decode cX11_laws 29 = .ok (.aload_n 0, 1) := by decide +kernel
theorem dX11_laws_30 : decode cX11_laws 30 = .ok (.getfield 46, 3) := by decide +kernel
theorem dX11_laws_33 : decode cX11_laws 33 = .ok (.invokevirtual 220, 3) := by decide +kernel
theorem dX11_laws_36 : decode cX11_laws 36 = .ok (.aload_n 0, 1) := by decide +kernel
theorem dX11_laws_37 : decode cX11_laws 37 = .ok (.getfield 53, 3) := by decide +kernel
theorem dX11_laws_40 : decode cX11_laws 40 = .ok (.getfield 198, 3) := by decide +kernel
theorem dX11_laws_43 : decode cX11_laws 43 = .ok (.ifCond .eq 14, 3) := by decide +kernel
theorem dX11_laws_46 : decode cX11_laws 46 = .ok (.bipush (-100), 2) := by decide +kernel
theorem dX11_laws_48 : decode cX11_laws 48 = .ok (.aload_n 0, 1) := by decide +kernel
theorem dX11_laws_49 : decode cX11_laws 49 = .ok (.getfield 53, 3) := by decide +kernel
theorem dX11_laws_52 : decode cX11_laws 52 = .ok (.getfield 201, 3) := by decide +kernel
theorem dX11_laws_55 : decode cX11_laws 55 = .ok (.isub, 1) := by decide +kernel
theorem dX11_laws_56 : decode cX11_laws 56 = .ok (.ireturn, 1) := by decide +kernel
theorem dX11_laws_57 : decode cX11_laws 57 = .ok (.aload_n 0, 1) := by decide +kernel
theorem dX11_laws_58 : decode cX11_laws 58 = .ok (.getfield 41, 3) := by decide +kernel
theorem dX11_laws_61 : decode cX11_laws 61 = .ok (.iload_n 1, 1) := by decide +kernel
theorem dX11_laws_62 : decode cX11_laws 62 = .ok (.aaload, 1) := by decide +kernel
theorem dX11_laws_63 : decode cX11_laws 63 = .ok (.astore_n 2, 1) := by decide +kernel
theorem dX11_laws_64 : decode cX11_laws 64 = .ok (.aload_n 0, 1) := by decide +kernel
theorem dX11_laws_65 : decode cX11_laws 65 = .ok (.getfield 41, 3) := by decide +kernel
theorem dX11_laws_68 : decode cX11_laws 68 = .ok (.iload_n 1, 1) := by decide +kernel
theorem dX11_laws_69 : decode cX11_laws 69 = .ok (.aload_n 0, 1) := by decide +kernel
theorem dX11_laws_70 : decode cX11_laws 70 = .ok (.getfield 46, 3) := by decide +kernel
theorem dX11_laws_73 : decode cX11_laws 73 = .ok (.aastore, 1) := by decide +kernel
theorem dX11_laws_74 : decode cX11_laws 74 = .ok (.aload_n 0, 1) := by decide +kernel
theorem dX11_laws_75 : decode cX11_laws 75 = .ok (.aload_n 2, 1) := by decide +kernel
theorem dX11_laws_76 : decode cX11_laws 76 = .ok (.putfield 46, 3) := by decide +kernel
theorem dX11_laws_79 : decode cX11_laws 79 = .ok (.aload_n 0, 1) := by decide +kernel
theorem dX11_laws_80 : decode cX11_laws 80 = .ok (.getfield 41, 3) := by decide +kernel
theorem dX11_laws_83 : decode cX11_laws 83 = .ok (.iload_n 1, 1) := by decide +kernel
theorem dX11_laws_84 : decode cX11_laws 84 = .ok (.aaload, 1) := by decide +kernel
theorem dX11_laws_85 : decode cX11_laws 85 = .ok (.getfield 224, 3) := by decide +kernel
theorem dX11_laws_88 : decode cX11_laws 88 = .ok (.ireturn, 1) := by decide +kernel
def fX11_laws (F : Nat) (a0 : Nat) (a1 : Int) (h : HF) : RO :=
  zbd (fX11_isList F a1 h) fun r1 h =>
  if r1 = 0 then (
    zbd (fX10_passOver F (a0 + 86) (a0 + 1) h) fun _ h =>
    some ((-3), h)
  ) else (
    zgd h a0 6 fun x3 =>
    zbd (fX10_readLaws F (a0 + 86) (a0 + 1) x3 h) fun _ h =>
    zgf h (a0 + 86) 0 fun x5 =>
    if x5 = 0 then (
      zrl h (a0 + 77) a1 fun x6 =>
      zgd h a0 6 fun x7 =>
      zwr h (a0 + 77) a1 ((x7 : Nat) : Int) fun h =>
      zpf h a0 6 ((x6 : Nat) : Int) fun h =>
      zrl h (a0 + 77) a1 fun x8 =>
      zgf h x8 0 fun x9 =>
      some (x9, h)
    ) else (
      zgf h (a0 + 86) 1 fun x10 =>
      some (wr ((-100) - x10), h)
    )
  )
set_option maxHeartbeats 4000000 in
set_option maxRecDepth 100000 in
theorem mX11_laws (F : Nat) (l : Launch) (g : zG) (B : Nat) (h : HF) (a0 : Nat) (a1 : Int) (ra0 : kt a0 = 14) (ra1 : rng a1) : CTi l g B yX11_laws cX11_laws 3 (some .int) 36 [.ref (B + a0), .int (ii a1)] h (fX11_laws F a0 a1 h) := by
  refine z_enterI (by decide) rfl (Nat.le_of_ble_eq_true rfl) ?_
  intro p e s m args below meth c ls o Q cx hp hl hf hQ
  have hl : lv_has ls 3 [(0, .ref (B + a0)), (1, .int (ii a1))] := hl
  unfold fX11_laws at hf
  refine lv_iload_n cx.1 cx.2.1 dX11_laws_0 rfl (lv_at hl 1 rfl) ?_
  refine z_ci cx hp (fun o' hx => zrunS (n := 36) (As := [.int (ii a1)]) (rest := []) cx hp (mX11_isList F l g B h a1 ra1 o' hx) sw_X11_isList ml_X11_217 (by decide) rfl hl.1 rfl (Nat.le_of_ble_eq_true rfl) dX11_laws_1) hf (fun r1 h H locs rr1 hp hf => ?_)
  refine z_if_ne cx rr1 (tgt := 21) dX11_laws_4 (by decide) hf (fun _ hf => ?_) (fun _ hf => ?_)
  · refine lv_aload_n cx.1 cx.2.1 dX11_laws_7 rfl (lv_at hl 0 rfl) ?_
    refine z_gets cx hp (T := TX11) 11 7 (a0 + 86) rfl zin_11 (by decide) (by decide) ra0 rfl fl_X11_53 dX11_laws_8 ?_
    refine lv_aload_n cx.1 cx.2.1 dX11_laws_11 rfl (lv_at hl 0 rfl) ?_
    refine z_gets cx hp (T := TX11) 11 0 (a0 + 1) rfl zin_11 (by decide) (by decide) ra0 rfl fl_X11_14 dX11_laws_12 ?_
    refine z_cv cx hp (fun o' hx => zrunV (n := 36) (As := [.ref (B + (a0 + 1))]) (rest := []) cx hp (mX10_passOver F l g B h (a0 + 86) (a0 + 1) (zs_11_7 a0 (kt_lt ra0 (by decide)) ra0) (zs_11_0 a0 (kt_lt ra0 (by decide)) ra0) o' hx) 10 (zs_11_7 a0 (kt_lt ra0 (by decide)) ra0) (by decide) rfl vw_X10_passOver ml_X11_191 (by decide) rfl hl.1 rfl (Nat.le_of_ble_eq_true rfl) dX11_laws_15) hf (fun _ h H locs hp hf => ?_)
    refine z_bipush cx (by decide) dX11_laws_18 ?_
    rw [hQ]; exact z_iret cx hp (by decide) dX11_laws_20 hf
  · refine lv_aload_n cx.1 cx.2.1 dX11_laws_21 rfl (lv_at hl 0 rfl) ?_
    refine z_gets cx hp (T := TX11) 11 7 (a0 + 86) rfl zin_11 (by decide) (by decide) ra0 rfl fl_X11_53 dX11_laws_22 ?_
    refine lv_aload_n cx.1 cx.2.1 dX11_laws_25 rfl (lv_at hl 0 rfl) ?_
    refine z_gets cx hp (T := TX11) 11 0 (a0 + 1) rfl zin_11 (by decide) (by decide) ra0 rfl fl_X11_14 dX11_laws_26 ?_
    refine lv_aload_n cx.1 cx.2.1 dX11_laws_29 rfl (lv_at hl 0 rfl) ?_
    refine z_getd cx hp (T := TX11) 11 6 7 rfl zin_11 (by decide) (by decide) ra0 rfl fl_X11_46 dX11_laws_30 hf (fun x3 rx3 hf => ?_)
    refine z_cv cx hp (fun o' hx => zrunV (n := 36) (As := [.ref (B + (a0 + 1)), .ref (B + x3)]) (rest := []) cx hp (mX10_readLaws F l g B h (a0 + 86) (a0 + 1) x3 (zs_11_7 a0 (kt_lt ra0 (by decide)) ra0) (zs_11_0 a0 (kt_lt ra0 (by decide)) ra0) rx3 o' hx) 10 (zs_11_7 a0 (kt_lt ra0 (by decide)) ra0) (by decide) rfl vw_X10_readLaws ml_X11_220 (by decide) rfl hl.1 rfl (Nat.le_of_ble_eq_true rfl) dX11_laws_33) hf (fun _ h H locs hp hf => ?_)
    refine lv_aload_n cx.1 cx.2.1 dX11_laws_36 rfl (lv_at hl 0 rfl) ?_
    refine z_gets cx hp (T := TX11) 11 7 (a0 + 86) rfl zin_11 (by decide) (by decide) ra0 rfl fl_X11_53 dX11_laws_37 ?_
    refine z_geti cx hp (T := TX10) 10 0 rfl zin_10 (by decide) (by decide) (zs_11_7 a0 (kt_lt ra0 (by decide)) ra0) rfl fl_X11_198 dX11_laws_40 hf (fun x5 rx5 hf => ?_)
    refine z_if_eq cx rx5 (tgt := 57) dX11_laws_43 (by decide) hf (fun _ hf => ?_) (fun _ hf => ?_)
    · refine lv_aload_n cx.1 cx.2.1 dX11_laws_57 rfl (lv_at hl 0 rfl) ?_
      refine z_gets cx hp (T := TX11) 11 5 (a0 + 77) rfl zin_11 (by decide) (by decide) ra0 rfl fl_X11_41 dX11_laws_58 ?_
      refine lv_iload_n cx.1 cx.2.1 dX11_laws_61 rfl (lv_at hl 1 rfl) ?_
      refine z_aald2 cx hp (zs_11_5 a0 (kt_lt ra0 (by decide)) ra0) ra1 dX11_laws_62 hf (fun x6 rx6 hf => ?_)
      refine lv_astore_n (lv' := [(2, .ref (B + x6)), (0, .ref (B + a0)), (1, .int (ii a1))]) cx.1 cx.2.1 dX11_laws_63 rfl hl (by decide) rfl (fun ls hl => ?_)
      refine lv_aload_n cx.1 cx.2.1 dX11_laws_64 rfl (lv_at hl 1 rfl) ?_
      refine z_gets cx hp (T := TX11) 11 5 (a0 + 77) rfl zin_11 (by decide) (by decide) ra0 rfl fl_X11_41 dX11_laws_65 ?_
      refine lv_iload_n cx.1 cx.2.1 dX11_laws_68 rfl (lv_at hl 2 rfl) ?_
      refine lv_aload_n cx.1 cx.2.1 dX11_laws_69 rfl (lv_at hl 1 rfl) ?_
      refine z_getd cx hp (T := TX11) 11 6 7 rfl zin_11 (by decide) (by decide) ra0 rfl fl_X11_46 dX11_laws_70 hf (fun x7 rx7 hf => ?_)
      refine z_aast2 cx hp (zs_11_5 a0 (kt_lt ra0 (by decide)) ra0) ra1 rx7 dX11_laws_73 hf (fun h H locs hp hf => ?_)
      refine lv_aload_n cx.1 cx.2.1 dX11_laws_74 rfl (lv_at hl 1 rfl) ?_
      refine lv_aload_n cx.1 cx.2.1 dX11_laws_75 rfl (lv_at hl 0 rfl) ?_
      refine z_putd cx hp (T := TX11) tyX11 tyX11_ok nmX11 11 6 7 rx6 rfl zin_11 (by decide) (by decide) ra0 rfl rfl ⟨_, rfl⟩ fl_X11_46 dX11_laws_76 hf (fun h H locs hp hf => ?_)
      refine lv_aload_n cx.1 cx.2.1 dX11_laws_79 rfl (lv_at hl 1 rfl) ?_
      refine z_gets cx hp (T := TX11) 11 5 (a0 + 77) rfl zin_11 (by decide) (by decide) ra0 rfl fl_X11_41 dX11_laws_80 ?_
      refine lv_iload_n cx.1 cx.2.1 dX11_laws_83 rfl (lv_at hl 2 rfl) ?_
      refine z_aald2 cx hp (zs_11_5 a0 (kt_lt ra0 (by decide)) ra0) ra1 dX11_laws_84 hf (fun x8 rx8 hf => ?_)
      refine z_geti cx hp (T := TX4) 4 0 rfl zin_4 (by decide) (by decide) rx8 rfl fl_X11_224 dX11_laws_85 hf (fun x9 rx9 hf => ?_)
      rw [hQ]; exact z_iret cx hp rx9 dX11_laws_88 hf
    · refine z_bipush cx (by decide) dX11_laws_46 ?_
      refine lv_aload_n cx.1 cx.2.1 dX11_laws_48 rfl (lv_at hl 0 rfl) ?_
      refine z_gets cx hp (T := TX11) 11 7 (a0 + 86) rfl zin_11 (by decide) (by decide) ra0 rfl fl_X11_53 dX11_laws_49 ?_
      refine z_geti cx hp (T := TX10) 10 1 rfl zin_10 (by decide) (by decide) (zs_11_7 a0 (kt_lt ra0 (by decide)) ra0) rfl fl_X11_201 dX11_laws_52 hf (fun x10 rx10 hf => ?_)
      refine z_isub cx dX11_laws_55 ?_
      rw [hQ]; exact z_iret cx hp (rng_wr _) dX11_laws_56 hf
theorem dX11_function_0 : decode cX11_function 0 = .ok (.aload_n 0, 1) := by decide +kernel
theorem dX11_function_1 : decode cX11_function 1 = .ok (.iload_n 1, 1) := by decide +kernel
theorem dX11_function_2 : decode cX11_function 2 = .ok (.invokevirtual 175, 3) := by decide +kernel
theorem dX11_function_5 : decode cX11_function 5 = .ok (.istore_n 3, 1) := by decide +kernel
theorem dX11_function_6 : decode cX11_function 6 = .ok (.iload_n 3, 1) := by decide +kernel
theorem dX11_function_7 : decode cX11_function 7 = .ok (.ifCond .eq 5, 3) := by decide +kernel
theorem dX11_function_10 : decode cX11_function 10 = .ok (.iload_n 3, 1) := by decide +kernel
theorem dX11_function_11 : decode cX11_function 11 = .ok (.ireturn, 1) := by decide +kernel
theorem dX11_function_12 : decode cX11_function 12 = .ok (.aload_n 0, 1) := by decide +kernel
theorem dX11_function_13 : decode cX11_function 13 = .ok (.getfield 88, 3) := by decide +kernel
theorem dX11_function_16 : decode cX11_function 16 = .ok (.aload_n 0, 1) := by decide +kernel
theorem dX11_function_17 : decode cX11_function 17 = .ok (.getfield 23, 3) := by decide +kernel
theorem dX11_function_20 : decode cX11_function 20 = .ok (.iload_n 1, 1) := by decide +kernel
theorem dX11_function_21 : decode cX11_function 21 = .ok (.aaload, 1) := by decide +kernel
theorem dX11_function_22 : decode cX11_function 22 = .ok (.invokevirtual 332, 3) := by decide +kernel
theorem dX11_function_25 : decode cX11_function 25 = .ok (.aload_n 0, 1) := by decide +kernel
theorem dX11_function_26 : decode cX11_function 26 = .ok (.getfield 88, 3) := by decide +kernel
theorem dX11_function_29 : decode cX11_function 29 = .ok (.getfield 333, 3) := by decide +kernel
theorem dX11_function_32 : decode cX11_function 32 = .ok (.ifCond .eq 6, 3) := by decide +kernel
theorem dX11_function_35 : decode cX11_function 35 = .ok (.bipush (-5), 2) := by decide +kernel
theorem dX11_function_37 : decode cX11_function 37 = .ok (.ireturn, 1) := by decide +kernel
theorem dX11_function_38 : decode cX11_function 38 = .ok (.iload_n 2, 1) := by decide +kernel
theorem dX11_function_39 : decode cX11_function 39 = .ok (.iconst (-1), 1) := by decide +kernel
theorem dX11_function_40 : decode cX11_function 40 = .ok (.if_icmp .ne 11, 3) := by decide +kernel
theorem dX11_function_43 : decode cX11_function 43 = .ok (.aload_n 0, 1) := by decide +kernel
theorem dX11_function_44 : decode cX11_function 44 = .ok (.getfield 88, 3) := by decide +kernel
theorem dX11_function_47 : decode cX11_function 47 = .ok (.getfield 337, 3) := by decide +kernel
theorem dX11_function_50 : decode cX11_function 50 = .ok (.ireturn, 1) := by decide +kernel
theorem dX11_function_51 : decode cX11_function 51 = .ok (.iload_n 2, 1) := by decide +kernel
theorem dX11_function_52 : decode cX11_function 52 = .ok (.ifCond .lt 14, 3) := by decide +kernel
theorem dX11_function_55 : decode cX11_function 55 = .ok (.iload_n 2, 1) := by decide +kernel
theorem dX11_function_56 : decode cX11_function 56 = .ok (.aload_n 0, 1) := by decide +kernel
theorem dX11_function_57 : decode cX11_function 57 = .ok (.getfield 88, 3) := by decide +kernel
theorem dX11_function_60 : decode cX11_function 60 = .ok (.getfield 337, 3) := by decide +kernel
theorem dX11_function_63 : decode cX11_function 63 = .ok (.if_icmp .lt 8, 3) := by decide +kernel
theorem dX11_function_71 : decode cX11_function 71 = .ok (.aload_n 0, 1) := by decide +kernel
theorem dX11_function_72 : decode cX11_function 72 = .ok (.getfield 88, 3) := by decide +kernel
theorem dX11_function_75 : decode cX11_function 75 = .ok (.getfield 338, 3) := by decide +kernel
theorem dX11_function_78 : decode cX11_function 78 = .ok (.iload_n 2, 1) := by decide +kernel
theorem dX11_function_79 : decode cX11_function 79 = .ok (.iaload, 1) := by decide +kernel
theorem dX11_function_66 : decode cX11_function 66 = .ok (.bipush (-3), 2) := by decide +kernel
theorem dX11_function_68 : decode cX11_function 68 = .ok (.goto 12, 3) := by decide +kernel
theorem dX11_function_80 : decode cX11_function 80 = .ok (.ireturn, 1) := by decide +kernel
def fX11_function (F : Nat) (a0 : Nat) (a1 : Int) (a2 : Int) (h : HF) : RO :=
  zbd (fX11_refuseDrawer F a0 a1 h) fun r1 h =>
  if r1 = 0 then (
    zrs (a0 + 5) a1 fun x2 =>
    zbd (fX9_gather F (a0 + 110) x2 h) fun _ h =>
    zgf h (a0 + 110) 2 fun x4 =>
    if x4 = 0 then (
      if a2 = (-1) then (
        zgf h (a0 + 110) 1 fun x5 =>
        some (x5, h)
      ) else (
        zjn (fun (y80_0 : Int) (h : HF) => (
          some (y80_0, h)
        )) fun j80 =>
        zjn (fun  (h : HF) => (
          j80 (-3) h
        )) fun j66 =>
        if a2 < 0 then (
          j66  h
        ) else (
          zgf h (a0 + 110) 1 fun x6 =>
          if a2 < x6 then (
            zrd h ((a0 + 110) + 1) a2 fun x7 =>
            j80 x7 h
          ) else (
            j66  h
          )
        )
      )
    ) else (
      some ((-5), h)
    )
  ) else (
    some (r1, h)
  )
set_option maxHeartbeats 4000000 in
set_option maxRecDepth 100000 in
theorem mX11_function (F : Nat) (l : Launch) (g : zG) (B : Nat) (h : HF) (a0 : Nat) (a1 : Int) (a2 : Int) (ra0 : kt a0 = 14) (ra1 : rng a1) (ra2 : rng a2) : CTi l g B yX11_function cX11_function 4 (some .int) 5 [.ref (B + a0), .int (ii a1), .int (ii a2)] h (fX11_function F a0 a1 a2 h) := by
  refine z_enterI (by decide) rfl (Nat.le_of_ble_eq_true rfl) ?_
  intro p e s m args below meth c ls o Q cx hp hl hf hQ
  have hl : lv_has ls 4 [(0, .ref (B + a0)), (1, .int (ii a1)), (2, .int (ii a2))] := hl
  unfold fX11_function at hf
  refine lv_aload_n cx.1 cx.2.1 dX11_function_0 rfl (lv_at hl 0 rfl) ?_
  refine lv_iload_n cx.1 cx.2.1 dX11_function_1 rfl (lv_at hl 1 rfl) ?_
  refine z_ci cx hp (fun o' hx => zrunV (n := 5) (As := [.int (ii a1)]) (rest := []) cx hp (mX11_refuseDrawer F l g B h a0 a1 ra0 ra1 o' hx) 11 ra0 (by decide) rfl vw_X11_refuseDrawer ml_X11_175 (by decide) rfl hl.1 rfl (Nat.le_of_ble_eq_true rfl) dX11_function_2) hf (fun r1 h H locs rr1 hp hf => ?_)
  refine lv_istore_n (lv' := [(3, .int (ii r1)), (0, .ref (B + a0)), (1, .int (ii a1)), (2, .int (ii a2))]) cx.1 cx.2.1 dX11_function_5 rfl hl (by decide) rfl (fun ls hl => ?_)
  refine lv_iload_n cx.1 cx.2.1 dX11_function_6 rfl (lv_at hl 0 rfl) ?_
  refine z_if_eq cx rr1 (tgt := 12) dX11_function_7 (by decide) hf (fun _ hf => ?_) (fun _ hf => ?_)
  · refine lv_aload_n cx.1 cx.2.1 dX11_function_12 rfl (lv_at hl 1 rfl) ?_
    refine z_gets cx hp (T := TX11) 11 12 (a0 + 110) rfl zin_11 (by decide) (by decide) ra0 rfl fl_X11_88 dX11_function_13 ?_
    refine lv_aload_n cx.1 cx.2.1 dX11_function_16 rfl (lv_at hl 1 rfl) ?_
    refine z_gets cx hp (T := TX11) 11 2 (a0 + 5) rfl zin_11 (by decide) (by decide) ra0 rfl fl_X11_23 dX11_function_17 ?_
    refine lv_iload_n cx.1 cx.2.1 dX11_function_20 rfl (lv_at hl 2 rfl) ?_
    refine z_aald1 cx hp (zs_11_2 a0 (kt_lt ra0 (by decide)) ra0) ra1 dX11_function_21 hf (fun x2 rx2 hf => ?_)
    refine z_cv cx hp (fun o' hx => zrunV (n := 5) (As := [.ref (B + x2)]) (rest := []) cx hp (mX9_gather F l g B h (a0 + 110) x2 (zs_11_12 a0 (kt_lt ra0 (by decide)) ra0) rx2 o' hx) 9 (zs_11_12 a0 (kt_lt ra0 (by decide)) ra0) (by decide) rfl vw_X9_gather ml_X11_332 (by decide) rfl hl.1 rfl (Nat.le_of_ble_eq_true rfl) dX11_function_22) hf (fun _ h H locs hp hf => ?_)
    refine lv_aload_n cx.1 cx.2.1 dX11_function_25 rfl (lv_at hl 1 rfl) ?_
    refine z_gets cx hp (T := TX11) 11 12 (a0 + 110) rfl zin_11 (by decide) (by decide) ra0 rfl fl_X11_88 dX11_function_26 ?_
    refine z_getz cx hp (T := TX9) 9 2 rfl zin_9 (by decide) (by decide) (zs_11_12 a0 (kt_lt ra0 (by decide)) ra0) rfl fl_X11_333 dX11_function_29 hf (fun x4 rx4 hf => ?_)
    refine z_if_eq cx rx4 (tgt := 38) dX11_function_32 (by decide) hf (fun _ hf => ?_) (fun _ hf => ?_)
    · refine lv_iload_n cx.1 cx.2.1 dX11_function_38 rfl (lv_at hl 3 rfl) ?_
      refine z_iconst cx dX11_function_39 ?_
      refine z_icmp_ne cx ra2 (by decide) (tgt := 51) dX11_function_40 (by decide) hf (fun _ hf => ?_) (fun _ hf => ?_)
      · refine lv_aload_n cx.1 cx.2.1 dX11_function_43 rfl (lv_at hl 1 rfl) ?_
        refine z_gets cx hp (T := TX11) 11 12 (a0 + 110) rfl zin_11 (by decide) (by decide) ra0 rfl fl_X11_88 dX11_function_44 ?_
        refine z_geti cx hp (T := TX9) 9 1 rfl zin_9 (by decide) (by decide) (zs_11_12 a0 (kt_lt ra0 (by decide)) ra0) rfl fl_X11_337 dX11_function_47 hf (fun x5 rx5 hf => ?_)
        rw [hQ]; exact z_iret cx hp rx5 dX11_function_50 hf
      · refine lv_iload_n cx.1 cx.2.1 dX11_function_51 rfl (lv_at hl 3 rfl) ?_
        refine z_jn hf (fun j => ∀ (y80_0 : Int) (h : HF) (H : Heap) (locs : List Loc) (ls : Array Slot), rng y80_0 → Hp g B s h H locs → lv_has ls 4 [] → j y80_0 h = some o → W p l e (rmn 5) s m args below meth c H locs 0 0 Q (F0 m 80 ls [.int (ii y80_0)])) ?_ (fun j80 hj80 hf => ?_)
        · intro y80_0 h H locs ls ry80_0 hp hl hf
          rw [hQ]; exact z_iret cx hp ry80_0 dX11_function_80 hf
        refine z_jn hf (fun j => ∀  (h : HF) (H : Heap) (locs : List Loc) (ls : Array Slot), Hp g B s h H locs → lv_has ls 4 [] → j  h = some o → W p l e (rmn 5) s m args below meth c H locs 0 0 Q (F0 m 66 ls [])) ?_ (fun j66 hj66 hf => ?_)
        · intro  h H locs ls  hp hl hf
          refine z_bipush cx (by decide) dX11_function_66 ?_
          refine lv_goto (tgt := 80) cx.1 cx.2.1 dX11_function_68 (by decide) ?_
          exact hj80 (-3) h _ _ ls (by decide) hp (lv_sub hl [] rfl) hf
        refine z_if_lt cx ra2 (tgt := 66) dX11_function_52 (by decide) hf (fun _ hf => ?_) (fun _ hf => ?_)
        · exact hj66  h _ _ ls  hp (lv_sub hl [] rfl) hf
        · refine lv_iload_n cx.1 cx.2.1 dX11_function_55 rfl (lv_at hl 3 rfl) ?_
          refine lv_aload_n cx.1 cx.2.1 dX11_function_56 rfl (lv_at hl 1 rfl) ?_
          refine z_gets cx hp (T := TX11) 11 12 (a0 + 110) rfl zin_11 (by decide) (by decide) ra0 rfl fl_X11_88 dX11_function_57 ?_
          refine z_geti cx hp (T := TX9) 9 1 rfl zin_9 (by decide) (by decide) (zs_11_12 a0 (kt_lt ra0 (by decide)) ra0) rfl fl_X11_337 dX11_function_60 hf (fun x6 rx6 hf => ?_)
          refine z_icmp_lt cx ra2 rx6 (tgt := 71) dX11_function_63 (by decide) hf (fun _ hf => ?_) (fun _ hf => ?_)
          · refine lv_aload_n cx.1 cx.2.1 dX11_function_71 rfl (lv_at hl 1 rfl) ?_
            refine z_gets cx hp (T := TX11) 11 12 (a0 + 110) rfl zin_11 (by decide) (by decide) ra0 rfl fl_X11_88 dX11_function_72 ?_
            refine z_gets cx hp (T := TX9) 9 0 ((a0 + 110) + 1) rfl zin_9 (by decide) (by decide) (zs_11_12 a0 (kt_lt ra0 (by decide)) ra0) rfl fl_X11_338 dX11_function_75 ?_
            refine lv_iload_n cx.1 cx.2.1 dX11_function_78 rfl (lv_at hl 3 rfl) ?_
            refine z_iald cx hp (zs_9_0 (a0 + 110) (kt_lt (zs_11_12 a0 (kt_lt ra0 (by decide)) ra0) (by decide)) (zs_11_12 a0 (kt_lt ra0 (by decide)) ra0)) ra2 dX11_function_79 hf (fun x7 rx7 hf => ?_)
            exact hj80 x7 h _ _ ls rx7 hp (lv_sub hl [] rfl) hf
          · exact hj66  h _ _ ls  hp (lv_sub hl [] rfl) hf
    · refine z_bipush cx (by decide) dX11_function_35 ?_
      rw [hQ]; exact z_iret cx hp (by decide) dX11_function_37 hf
  · refine lv_iload_n cx.1 cx.2.1 dX11_function_10 rfl (lv_at hl 0 rfl) ?_
    rw [hQ]; exact z_iret cx hp rr1 dX11_function_11 hf
