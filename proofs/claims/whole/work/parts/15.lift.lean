theorem dX12_agrees_0 : decode cX12_agrees 0 = .ok (.iconst 0, 1) := by decide +kernel
theorem dX12_agrees_1 : decode cX12_agrees 1 = .ok (.istore_n 2, 1) := by decide +kernel
theorem dX12_agrees_2 : decode cX12_agrees 2 = .ok (.iload_n 2, 1) := by decide +kernel
theorem dX12_agrees_3 : decode cX12_agrees 3 = .ok (.aload_n 0, 1) := by decide +kernel
theorem dX12_agrees_4 : decode cX12_agrees 4 = .ok (.getfield 19, 3) := by decide +kernel
theorem dX12_agrees_7 : decode cX12_agrees 7 = .ok (.iload_n 1, 1) := by decide +kernel
theorem dX12_agrees_8 : decode cX12_agrees 8 = .ok (.iaload, 1) := by decide +kernel
theorem dX12_agrees_9 : decode cX12_agrees 9 = .ok (.if_icmp .ge 127, 3) := by decide +kernel
theorem dX12_agrees_12 : decode cX12_agrees 12 = .ok (.iconst 0, 1) := by decide +kernel
theorem dX12_agrees_13 : decode cX12_agrees 13 = .ok (.istore_n 3, 1) := by decide +kernel
theorem dX12_agrees_14 : decode cX12_agrees 14 = .ok (.iload_n 3, 1) := by decide +kernel
theorem dX12_agrees_15 : decode cX12_agrees 15 = .ok (.aload_n 0, 1) := by decide +kernel
theorem dX12_agrees_16 : decode cX12_agrees 16 = .ok (.iload_n 1, 1) := by decide +kernel
theorem dX12_agrees_17 : decode cX12_agrees 17 = .ok (.iload_n 2, 1) := by decide +kernel
theorem dX12_agrees_18 : decode cX12_agrees 18 = .ok (.iconst 0, 1) := by decide +kernel
theorem dX12_agrees_19 : decode cX12_agrees 19 = .ok (.invokevirtual 304, 3) := by decide +kernel
theorem dX12_agrees_22 : decode cX12_agrees 22 = .ok (.if_icmp .ge 108, 3) := by decide +kernel
theorem dX12_agrees_25 : decode cX12_agrees 25 = .ok (.iconst 0, 1) := by decide +kernel
theorem dX12_agrees_26 : decode cX12_agrees 26 = .ok (.istore 4, 2) := by decide +kernel
theorem dX12_agrees_28 : decode cX12_agrees 28 = .ok (.iload 4, 2) := by decide +kernel
theorem dX12_agrees_30 : decode cX12_agrees 30 = .ok (.aload_n 0, 1) := by decide +kernel
theorem dX12_agrees_31 : decode cX12_agrees 31 = .ok (.iload_n 1, 1) := by decide +kernel
theorem dX12_agrees_32 : decode cX12_agrees 32 = .ok (.iload_n 2, 1) := by decide +kernel
theorem dX12_agrees_33 : decode cX12_agrees 33 = .ok (.iconst 1, 1) := by decide +kernel
theorem dX12_agrees_34 : decode cX12_agrees 34 = .ok (.invokevirtual 304, 3) := by decide +kernel
theorem dX12_agrees_37 : decode cX12_agrees 37 = .ok (.if_icmp .ge 87, 3) := by decide +kernel
theorem dX12_agrees_40 : decode cX12_agrees 40 = .ok (.aload_n 0, 1) := by decide +kernel
theorem dX12_agrees_41 : decode cX12_agrees 41 = .ok (.iload_n 1, 1) := by decide +kernel
theorem dX12_agrees_42 : decode cX12_agrees 42 = .ok (.iload_n 2, 1) := by decide +kernel
theorem dX12_agrees_43 : decode cX12_agrees 43 = .ok (.invokevirtual 129, 3) := by decide +kernel
theorem dX12_agrees_46 : decode cX12_agrees 46 = .ok (.ifCond .le 12, 3) := by decide +kernel
theorem dX12_agrees_49 : decode cX12_agrees 49 = .ok (.aload_n 0, 1) := by decide +kernel
theorem dX12_agrees_50 : decode cX12_agrees 50 = .ok (.getfield 85, 3) := by decide +kernel
theorem dX12_agrees_53 : decode cX12_agrees 53 = .ok (.iload_n 3, 1) := by decide +kernel
theorem dX12_agrees_54 : decode cX12_agrees 54 = .ok (.iaload, 1) := by decide +kernel
theorem dX12_agrees_55 : decode cX12_agrees 55 = .ok (.goto 4, 3) := by decide +kernel
theorem dX12_agrees_58 : decode cX12_agrees 58 = .ok (.iconst 0, 1) := by decide +kernel
theorem dX12_agrees_59 : decode cX12_agrees 59 = .ok (.istore 5, 2) := by decide +kernel
theorem dX12_agrees_61 : decode cX12_agrees 61 = .ok (.aload_n 0, 1) := by decide +kernel
theorem dX12_agrees_62 : decode cX12_agrees 62 = .ok (.iload_n 1, 1) := by decide +kernel
theorem dX12_agrees_63 : decode cX12_agrees 63 = .ok (.iload_n 2, 1) := by decide +kernel
theorem dX12_agrees_64 : decode cX12_agrees 64 = .ok (.invokevirtual 129, 3) := by decide +kernel
theorem dX12_agrees_67 : decode cX12_agrees 67 = .ok (.iconst 1, 1) := by decide +kernel
theorem dX12_agrees_68 : decode cX12_agrees 68 = .ok (.if_icmp .le 13, 3) := by decide +kernel
theorem dX12_agrees_71 : decode cX12_agrees 71 = .ok (.aload_n 0, 1) := by decide +kernel
theorem dX12_agrees_72 : decode cX12_agrees 72 = .ok (.getfield 85, 3) := by decide +kernel
theorem dX12_agrees_75 : decode cX12_agrees 75 = .ok (.iload 4, 2) := by decide +kernel
theorem dX12_agrees_77 : decode cX12_agrees 77 = .ok (.iaload, 1) := by decide +kernel
theorem dX12_agrees_78 : decode cX12_agrees 78 = .ok (.goto 4, 3) := by decide +kernel
theorem dX12_agrees_81 : decode cX12_agrees 81 = .ok (.iconst 0, 1) := by decide +kernel
theorem dX12_agrees_82 : decode cX12_agrees 82 = .ok (.istore 6, 2) := by decide +kernel
theorem dX12_agrees_84 : decode cX12_agrees 84 = .ok (.aload_n 0, 1) := by decide +kernel
theorem dX12_agrees_85 : decode cX12_agrees 85 = .ok (.getfield 85, 3) := by decide +kernel
theorem dX12_agrees_88 : decode cX12_agrees 88 = .ok (.aload_n 0, 1) := by decide +kernel
theorem dX12_agrees_89 : decode cX12_agrees 89 = .ok (.iload_n 1, 1) := by decide +kernel
theorem dX12_agrees_90 : decode cX12_agrees 90 = .ok (.iload_n 2, 1) := by decide +kernel
theorem dX12_agrees_91 : decode cX12_agrees 91 = .ok (.iload_n 3, 1) := by decide +kernel
theorem dX12_agrees_92 : decode cX12_agrees 92 = .ok (.iload 4, 2) := by decide +kernel
theorem dX12_agrees_94 : decode cX12_agrees 94 = .ok (.invokevirtual 178, 3) := by decide +kernel
theorem dX12_agrees_97 : decode cX12_agrees 97 = .ok (.iaload, 1) := by decide +kernel
theorem dX12_agrees_98 : decode cX12_agrees 98 = .ok (.aload_n 0, 1) := by decide +kernel
theorem dX12_agrees_99 : decode cX12_agrees 99 = .ok (.getfield 85, 3) := by decide +kernel
theorem dX12_agrees_102 : decode cX12_agrees 102 = .ok (.aload_n 0, 1) := by decide +kernel
theorem dX12_agrees_103 : decode cX12_agrees 103 = .ok (.iload_n 1, 1) := by decide +kernel
theorem dX12_agrees_104 : decode cX12_agrees 104 = .ok (.iload_n 2, 1) := by decide +kernel
theorem dX12_agrees_105 : decode cX12_agrees 105 = .ok (.iload 5, 2) := by decide +kernel
theorem dX12_agrees_107 : decode cX12_agrees 107 = .ok (.iload 6, 2) := by decide +kernel
theorem dX12_agrees_109 : decode cX12_agrees 109 = .ok (.invokevirtual 178, 3) := by decide +kernel
theorem dX12_agrees_112 : decode cX12_agrees 112 = .ok (.iaload, 1) := by decide +kernel
theorem dX12_agrees_113 : decode cX12_agrees 113 = .ok (.if_icmp .eq 5, 3) := by decide +kernel
theorem dX12_agrees_116 : decode cX12_agrees 116 = .ok (.iconst 0, 1) := by decide +kernel
theorem dX12_agrees_117 : decode cX12_agrees 117 = .ok (.ireturn, 1) := by decide +kernel
theorem dX12_agrees_118 : decode cX12_agrees 118 = .ok (.iinc 4 1, 3) := by decide +kernel
theorem dX12_agrees_121 : decode cX12_agrees 121 = .ok (.goto (-93), 3) := by decide +kernel
theorem dX12_agrees_124 : decode cX12_agrees 124 = .ok (.iinc 3 1, 3) := by decide +kernel
theorem dX12_agrees_127 : decode cX12_agrees 127 = .ok (.goto (-113), 3) := by decide +kernel
theorem dX12_agrees_130 : decode cX12_agrees 130 = .ok (.iinc 2 1, 3) := by decide +kernel
theorem dX12_agrees_133 : decode cX12_agrees 133 = .ok (.goto (-131), 3) := by decide +kernel
theorem dX12_agrees_136 : decode cX12_agrees 136 = .ok (.iconst 1, 1) := by decide +kernel
theorem dX12_agrees_137 : decode cX12_agrees 137 = .ok (.ireturn, 1) := by decide +kernel
def LX12_agrees_28 (F : Nat) (u0 : Nat) (u1 : Int) (u2 : Int) (u3 : Int) (k124 : Int → HF → RO) (k116 : HF → RO) : Nat → Int → HF → RO
  | 0, _, _ => none
  | n + 1, v4, h =>
    zbd (fX12_upTo F u0 u1 u2 1 h) fun r5 h =>
    if v4 < r5 then (
      zbd (fX12_arity F u0 u1 u2 h) fun r6 h =>
      zjn (fun (x59_4 : Int) (y59_0 : Int) (h : HF) => (
        zbd (fX12_arity F u0 u1 u2 h) fun r7 h =>
        zjn (fun (x82_4 : Int) (x82_5 : Int) (y82_0 : Int) (h : HF) => (
          zbd (fX12_value F u0 u1 u2 u3 x82_4 h) fun r8 h =>
          zrd h (u0 + 26) r8 fun x9 =>
          zbd (fX12_value F u0 u1 u2 x82_5 y82_0 h) fun r10 h =>
          zrd h (u0 + 26) r10 fun x11 =>
          if x9 = x11 then (
            zlet (wr (x82_4 + 1)) fun x12 =>
            LX12_agrees_28 F u0 u1 u2 u3 k124 k116 n x12 h
          ) else (
            k116  h
          )
        )) fun j82 =>
        if 1 < r7 then (
          zrd h (u0 + 26) x59_4 fun x13 =>
          j82 x59_4 y59_0 x13 h
        ) else (
          j82 x59_4 y59_0 0 h
        )
      )) fun j59 =>
      if 0 < r6 then (
        zrd h (u0 + 26) u3 fun x14 =>
        j59 v4 x14 h
      ) else (
        j59 v4 0 h
      )
    ) else (
      k124 u3 h
    )
set_option maxHeartbeats 4000000 in
set_option maxRecDepth 100000 in
theorem wX12_agrees_28 {p : Program} {l : Launch} {e : Env} {s : State} {m : MethodId} {args : Array Value} {below : List Frame} {meth : Method} {c : Code} {Q : State → Prop} {g : zG} {B : Nat} {o : Int × HF} (F : Nat) (cx : Cx p s m args meth c cX12_agrees 7 RX12 (some .boolean) g B) (u0 : Nat) (ru0 : kt u0 = 15) (u1 : Int) (ru1 : rng u1) (u2 : Int) (ru2 : rng u2) (u3 : Int) (ru3 : rng u3) (k124 : Int → HF → RO) (hk124 : ∀ (x3 : Int) (h : HF) (H : Heap) (locs : List Loc) (ls : Array Slot), rng x3 → Hp g B s h H locs → lv_has ls 7 [(0, .ref (B + u0)), (1, .int (ii u1)), (2, .int (ii u2)), (3, .int (ii x3))] → k124 x3 h = some o → W p l e (rmn 3) s m args below meth c H locs 0 0 Q (F0 m 124 ls [])) (k116 : HF → RO) (hk116 : ∀  (h : HF) (H : Heap) (locs : List Loc) (ls : Array Slot), Hp g B s h H locs → lv_has ls 7 [] → k116  h = some o → W p l e (rmn 3) s m args below meth c H locs 0 0 Q (F0 m 116 ls [])) : ∀ (n : Nat) (v4 : Int) (h : HF) (H : Heap) (locs : List Loc) (ls : Array Slot), rng v4 → Hp g B s h H locs → lv_has ls 7 [(0, .ref (B + u0)), (1, .int (ii u1)), (2, .int (ii u2)), (3, .int (ii u3)), (4, .int (ii v4))] → LX12_agrees_28 F u0 u1 u2 u3 k124 k116 n v4 h = some o → W p l e (rmn 3) s m args below meth c H locs 0 0 Q (F0 m 28 ls []) := by
  intro n
  induction n with
  | zero =>
    intro v4 h H locs ls rv4 hp hl hf
    cases hf
  | succ n ih =>
    intro v4 h H locs ls rv4 hp hl hf
    rw [LX12_agrees_28] at hf
    refine lv_iload cx.1 cx.2.1 dX12_agrees_28 (lv_at hl 4 rfl) ?_
    refine lv_aload_n cx.1 cx.2.1 dX12_agrees_30 rfl (lv_at hl 0 rfl) ?_
    refine lv_iload_n cx.1 cx.2.1 dX12_agrees_31 rfl (lv_at hl 1 rfl) ?_
    refine lv_iload_n cx.1 cx.2.1 dX12_agrees_32 rfl (lv_at hl 2 rfl) ?_
    refine z_iconst cx dX12_agrees_33 ?_
    refine z_ci cx hp (fun o' hx => zrunV (n := 3) (As := [.int (ii u1), .int (ii u2), .int (ii 1)]) (rest := [.int (ii v4)]) cx hp (mX12_upTo F l g B h u0 u1 u2 1 ru0 ru1 ru2 (by decide) o' hx) 12 ru0 (by decide) rfl vw_X12_upTo ml_X12_304 (by decide) rfl hl.1 rfl (Nat.le_of_ble_eq_true rfl) dX12_agrees_34) hf (fun r5 h H locs rr5 hp hf => ?_)
    refine z_icmp_ge cx rv4 rr5 (tgt := 124) dX12_agrees_37 (by decide) hf (fun _ hf => ?_) (fun _ hf => ?_)
    · refine lv_aload_n cx.1 cx.2.1 dX12_agrees_40 rfl (lv_at hl 0 rfl) ?_
      refine lv_iload_n cx.1 cx.2.1 dX12_agrees_41 rfl (lv_at hl 1 rfl) ?_
      refine lv_iload_n cx.1 cx.2.1 dX12_agrees_42 rfl (lv_at hl 2 rfl) ?_
      refine z_ci cx hp (fun o' hx => zrunV (n := 3) (As := [.int (ii u1), .int (ii u2)]) (rest := []) cx hp (mX12_arity F l g B h u0 u1 u2 ru0 ru1 ru2 o' hx) 12 ru0 (by decide) rfl vw_X12_arity ml_X12_129 (by decide) rfl hl.1 rfl (Nat.le_of_ble_eq_true rfl) dX12_agrees_43) hf (fun r6 h H locs rr6 hp hf => ?_)
      refine z_jn hf (fun j => ∀ (x59_4 : Int) (y59_0 : Int) (h : HF) (H : Heap) (locs : List Loc) (ls : Array Slot), rng x59_4 → rng y59_0 → Hp g B s h H locs → lv_has ls 7 [(0, .ref (B + u0)), (1, .int (ii u1)), (2, .int (ii u2)), (3, .int (ii u3)), (4, .int (ii x59_4))] → j x59_4 y59_0 h = some o → W p l e (rmn 3) s m args below meth c H locs 0 0 Q (F0 m 59 ls [.int (ii y59_0)])) ?_ (fun j59 hj59 hf => ?_)
      · intro x59_4 y59_0 h H locs ls rx59_4 ry59_0 hp hl hf
        refine lv_istore (lv' := [(5, .int (ii y59_0)), (0, .ref (B + u0)), (1, .int (ii u1)), (2, .int (ii u2)), (3, .int (ii u3)), (4, .int (ii x59_4))]) cx.1 cx.2.1 dX12_agrees_59 hl (by decide) rfl (fun ls hl => ?_)
        refine lv_aload_n cx.1 cx.2.1 dX12_agrees_61 rfl (lv_at hl 1 rfl) ?_
        refine lv_iload_n cx.1 cx.2.1 dX12_agrees_62 rfl (lv_at hl 2 rfl) ?_
        refine lv_iload_n cx.1 cx.2.1 dX12_agrees_63 rfl (lv_at hl 3 rfl) ?_
        refine z_ci cx hp (fun o' hx => zrunV (n := 3) (As := [.int (ii u1), .int (ii u2)]) (rest := []) cx hp (mX12_arity F l g B h u0 u1 u2 ru0 ru1 ru2 o' hx) 12 ru0 (by decide) rfl vw_X12_arity ml_X12_129 (by decide) rfl hl.1 rfl (Nat.le_of_ble_eq_true rfl) dX12_agrees_64) hf (fun r7 h H locs rr7 hp hf => ?_)
        refine z_iconst cx dX12_agrees_67 ?_
        refine z_jn hf (fun j => ∀ (x82_4 : Int) (x82_5 : Int) (y82_0 : Int) (h : HF) (H : Heap) (locs : List Loc) (ls : Array Slot), rng x82_4 → rng x82_5 → rng y82_0 → Hp g B s h H locs → lv_has ls 7 [(0, .ref (B + u0)), (1, .int (ii u1)), (2, .int (ii u2)), (3, .int (ii u3)), (4, .int (ii x82_4)), (5, .int (ii x82_5))] → j x82_4 x82_5 y82_0 h = some o → W p l e (rmn 3) s m args below meth c H locs 0 0 Q (F0 m 82 ls [.int (ii y82_0)])) ?_ (fun j82 hj82 hf => ?_)
        · intro x82_4 x82_5 y82_0 h H locs ls rx82_4 rx82_5 ry82_0 hp hl hf
          refine lv_istore (lv' := [(6, .int (ii y82_0)), (0, .ref (B + u0)), (1, .int (ii u1)), (2, .int (ii u2)), (3, .int (ii u3)), (4, .int (ii x82_4)), (5, .int (ii x82_5))]) cx.1 cx.2.1 dX12_agrees_82 hl (by decide) rfl (fun ls hl => ?_)
          refine lv_aload_n cx.1 cx.2.1 dX12_agrees_84 rfl (lv_at hl 1 rfl) ?_
          refine z_gets cx hp (T := TX12) 12 42 (u0 + 26) rfl zin_12 (by decide) (by decide) ru0 rfl fl_X12_85 dX12_agrees_85 ?_
          refine lv_aload_n cx.1 cx.2.1 dX12_agrees_88 rfl (lv_at hl 1 rfl) ?_
          refine lv_iload_n cx.1 cx.2.1 dX12_agrees_89 rfl (lv_at hl 2 rfl) ?_
          refine lv_iload_n cx.1 cx.2.1 dX12_agrees_90 rfl (lv_at hl 3 rfl) ?_
          refine lv_iload_n cx.1 cx.2.1 dX12_agrees_91 rfl (lv_at hl 4 rfl) ?_
          refine lv_iload cx.1 cx.2.1 dX12_agrees_92 (lv_at hl 5 rfl) ?_
          refine z_ci cx hp (fun o' hx => zrunV (n := 3) (As := [.int (ii u1), .int (ii u2), .int (ii u3), .int (ii x82_4)]) (rest := [.ref (B + (u0 + 26))]) cx hp (mX12_value F l g B h u0 u1 u2 u3 x82_4 ru0 ru1 ru2 ru3 rx82_4 o' hx) 12 ru0 (by decide) rfl vw_X12_value ml_X12_178 (by decide) rfl hl.1 rfl (Nat.le_of_ble_eq_true rfl) dX12_agrees_94) hf (fun r8 h H locs rr8 hp hf => ?_)
          refine z_iald cx hp (zs_12_42 u0 (kt_lt ru0 (by decide)) ru0) rr8 dX12_agrees_97 hf (fun x9 rx9 hf => ?_)
          refine lv_aload_n cx.1 cx.2.1 dX12_agrees_98 rfl (lv_at hl 1 rfl) ?_
          refine z_gets cx hp (T := TX12) 12 42 (u0 + 26) rfl zin_12 (by decide) (by decide) ru0 rfl fl_X12_85 dX12_agrees_99 ?_
          refine lv_aload_n cx.1 cx.2.1 dX12_agrees_102 rfl (lv_at hl 1 rfl) ?_
          refine lv_iload_n cx.1 cx.2.1 dX12_agrees_103 rfl (lv_at hl 2 rfl) ?_
          refine lv_iload_n cx.1 cx.2.1 dX12_agrees_104 rfl (lv_at hl 3 rfl) ?_
          refine lv_iload cx.1 cx.2.1 dX12_agrees_105 (lv_at hl 6 rfl) ?_
          refine lv_iload cx.1 cx.2.1 dX12_agrees_107 (lv_at hl 0 rfl) ?_
          refine z_ci cx hp (fun o' hx => zrunV (n := 3) (As := [.int (ii u1), .int (ii u2), .int (ii x82_5), .int (ii y82_0)]) (rest := [.ref (B + (u0 + 26)), .int (ii x9)]) cx hp (mX12_value F l g B h u0 u1 u2 x82_5 y82_0 ru0 ru1 ru2 rx82_5 ry82_0 o' hx) 12 ru0 (by decide) rfl vw_X12_value ml_X12_178 (by decide) rfl hl.1 rfl (Nat.le_of_ble_eq_true rfl) dX12_agrees_109) hf (fun r10 h H locs rr10 hp hf => ?_)
          refine z_iald cx hp (zs_12_42 u0 (kt_lt ru0 (by decide)) ru0) rr10 dX12_agrees_112 hf (fun x11 rx11 hf => ?_)
          refine z_icmp_eq cx rx9 rx11 (tgt := 118) dX12_agrees_113 (by decide) hf (fun _ hf => ?_) (fun _ hf => ?_)
          · refine z_iinc cx (fun x12 => [(4, .int (ii x12)), (6, .int (ii y82_0)), (0, .ref (B + u0)), (1, .int (ii u1)), (2, .int (ii u2)), (3, .int (ii u3)), (5, .int (ii x82_5))]) dX12_agrees_118 hl (k := 5) rfl (by decide) (fun _ => rfl) hf (fun x12 rx12 hf ls hl => ?_)
            refine lv_goto (tgt := 28) cx.1 cx.2.1 dX12_agrees_121 (by decide) ?_
            exact ih x12 h _ _ ls rx12 hp (lv_sub hl [2, 3, 4, 5, 0] rfl) hf
          · exact hk116  h _ _ ls  hp (lv_sub hl [] rfl) hf
        refine z_icmp_le cx rr7 (by decide) (tgt := 81) dX12_agrees_68 (by decide) hf (fun _ hf => ?_) (fun _ hf => ?_)
        · refine lv_aload_n cx.1 cx.2.1 dX12_agrees_71 rfl (lv_at hl 1 rfl) ?_
          refine z_gets cx hp (T := TX12) 12 42 (u0 + 26) rfl zin_12 (by decide) (by decide) ru0 rfl fl_X12_85 dX12_agrees_72 ?_
          refine lv_iload cx.1 cx.2.1 dX12_agrees_75 (lv_at hl 5 rfl) ?_
          refine z_iald cx hp (zs_12_42 u0 (kt_lt ru0 (by decide)) ru0) rx59_4 dX12_agrees_77 hf (fun x13 rx13 hf => ?_)
          refine lv_goto (tgt := 82) cx.1 cx.2.1 dX12_agrees_78 (by decide) ?_
          exact hj82 x59_4 y59_0 x13 h _ _ ls rx59_4 ry59_0 rx13 hp (lv_sub hl [1, 2, 3, 4, 5, 0] rfl) hf
        · refine z_iconst cx dX12_agrees_81 ?_
          exact hj82 x59_4 y59_0 0 h _ _ ls rx59_4 ry59_0 (by decide) hp (lv_sub hl [1, 2, 3, 4, 5, 0] rfl) hf
      refine z_if_le cx rr6 (tgt := 58) dX12_agrees_46 (by decide) hf (fun _ hf => ?_) (fun _ hf => ?_)
      · refine lv_aload_n cx.1 cx.2.1 dX12_agrees_49 rfl (lv_at hl 0 rfl) ?_
        refine z_gets cx hp (T := TX12) 12 42 (u0 + 26) rfl zin_12 (by decide) (by decide) ru0 rfl fl_X12_85 dX12_agrees_50 ?_
        refine lv_iload_n cx.1 cx.2.1 dX12_agrees_53 rfl (lv_at hl 3 rfl) ?_
        refine z_iald cx hp (zs_12_42 u0 (kt_lt ru0 (by decide)) ru0) ru3 dX12_agrees_54 hf (fun x14 rx14 hf => ?_)
        refine lv_goto (tgt := 59) cx.1 cx.2.1 dX12_agrees_55 (by decide) ?_
        exact hj59 v4 x14 h _ _ ls rv4 rx14 hp (lv_sub hl [0, 1, 2, 3, 4] rfl) hf
      · refine z_iconst cx dX12_agrees_58 ?_
        exact hj59 v4 0 h _ _ ls rv4 (by decide) hp (lv_sub hl [0, 1, 2, 3, 4] rfl) hf
    · exact hk124 u3 h _ _ ls ru3 hp (lv_sub hl [0, 1, 2, 3] rfl) hf
def LX12_agrees_14 (F : Nat) (u0 : Nat) (u1 : Int) (u2 : Int) (k130 : Int → HF → RO) (k116 : HF → RO) : Nat → Int → HF → RO
  | 0, _, _ => none
  | n + 1, v3, h =>
    zbd (fX12_upTo F u0 u1 u2 0 h) fun r3 h =>
    if v3 < r3 then (
      zjn (fun (x124_3 : Int) (h : HF) => (
        zlet (wr (x124_3 + 1)) fun x4 =>
        LX12_agrees_14 F u0 u1 u2 k130 k116 n x4 h
      )) fun j124 =>
      LX12_agrees_28 F u0 u1 u2 v3 j124 k116 F 0 h
    ) else (
      k130 u2 h
    )
set_option maxHeartbeats 4000000 in
set_option maxRecDepth 100000 in
theorem wX12_agrees_14 {p : Program} {l : Launch} {e : Env} {s : State} {m : MethodId} {args : Array Value} {below : List Frame} {meth : Method} {c : Code} {Q : State → Prop} {g : zG} {B : Nat} {o : Int × HF} (F : Nat) (cx : Cx p s m args meth c cX12_agrees 7 RX12 (some .boolean) g B) (u0 : Nat) (ru0 : kt u0 = 15) (u1 : Int) (ru1 : rng u1) (u2 : Int) (ru2 : rng u2) (k130 : Int → HF → RO) (hk130 : ∀ (x2 : Int) (h : HF) (H : Heap) (locs : List Loc) (ls : Array Slot), rng x2 → Hp g B s h H locs → lv_has ls 7 [(0, .ref (B + u0)), (1, .int (ii u1)), (2, .int (ii x2))] → k130 x2 h = some o → W p l e (rmn 3) s m args below meth c H locs 0 0 Q (F0 m 130 ls [])) (k116 : HF → RO) (hk116 : ∀  (h : HF) (H : Heap) (locs : List Loc) (ls : Array Slot), Hp g B s h H locs → lv_has ls 7 [] → k116  h = some o → W p l e (rmn 3) s m args below meth c H locs 0 0 Q (F0 m 116 ls [])) : ∀ (n : Nat) (v3 : Int) (h : HF) (H : Heap) (locs : List Loc) (ls : Array Slot), rng v3 → Hp g B s h H locs → lv_has ls 7 [(0, .ref (B + u0)), (1, .int (ii u1)), (2, .int (ii u2)), (3, .int (ii v3))] → LX12_agrees_14 F u0 u1 u2 k130 k116 n v3 h = some o → W p l e (rmn 3) s m args below meth c H locs 0 0 Q (F0 m 14 ls []) := by
  intro n
  induction n with
  | zero =>
    intro v3 h H locs ls rv3 hp hl hf
    cases hf
  | succ n ih =>
    intro v3 h H locs ls rv3 hp hl hf
    rw [LX12_agrees_14] at hf
    refine lv_iload_n cx.1 cx.2.1 dX12_agrees_14 rfl (lv_at hl 3 rfl) ?_
    refine lv_aload_n cx.1 cx.2.1 dX12_agrees_15 rfl (lv_at hl 0 rfl) ?_
    refine lv_iload_n cx.1 cx.2.1 dX12_agrees_16 rfl (lv_at hl 1 rfl) ?_
    refine lv_iload_n cx.1 cx.2.1 dX12_agrees_17 rfl (lv_at hl 2 rfl) ?_
    refine z_iconst cx dX12_agrees_18 ?_
    refine z_ci cx hp (fun o' hx => zrunV (n := 3) (As := [.int (ii u1), .int (ii u2), .int (ii 0)]) (rest := [.int (ii v3)]) cx hp (mX12_upTo F l g B h u0 u1 u2 0 ru0 ru1 ru2 (by decide) o' hx) 12 ru0 (by decide) rfl vw_X12_upTo ml_X12_304 (by decide) rfl hl.1 rfl (Nat.le_of_ble_eq_true rfl) dX12_agrees_19) hf (fun r3 h H locs rr3 hp hf => ?_)
    refine z_icmp_ge cx rv3 rr3 (tgt := 130) dX12_agrees_22 (by decide) hf (fun _ hf => ?_) (fun _ hf => ?_)
    · refine z_iconst cx dX12_agrees_25 ?_
      refine lv_istore (lv' := [(4, .int (ii 0)), (0, .ref (B + u0)), (1, .int (ii u1)), (2, .int (ii u2)), (3, .int (ii v3))]) cx.1 cx.2.1 dX12_agrees_26 hl (by decide) rfl (fun ls hl => ?_)
      refine z_jn hf (fun j => ∀ (x124_3 : Int) (h : HF) (H : Heap) (locs : List Loc) (ls : Array Slot), rng x124_3 → Hp g B s h H locs → lv_has ls 7 [(0, .ref (B + u0)), (1, .int (ii u1)), (2, .int (ii u2)), (3, .int (ii x124_3))] → j x124_3 h = some o → W p l e (rmn 3) s m args below meth c H locs 0 0 Q (F0 m 124 ls [])) ?_ (fun j124 hj124 hf => ?_)
      · intro x124_3 h H locs ls rx124_3 hp hl hf
        refine z_iinc cx (fun x4 => [(3, .int (ii x4)), (0, .ref (B + u0)), (1, .int (ii u1)), (2, .int (ii u2))]) dX12_agrees_124 hl (k := 3) rfl (by decide) (fun _ => rfl) hf (fun x4 rx4 hf ls hl => ?_)
        refine lv_goto (tgt := 14) cx.1 cx.2.1 dX12_agrees_127 (by decide) ?_
        exact ih x4 h _ _ ls rx4 hp (lv_sub hl [1, 2, 3, 0] rfl) hf
      exact wX12_agrees_28 F cx u0 ru0 u1 ru1 u2 ru2 v3 rv3 j124 hj124 k116 hk116 F 0 h _ _ ls (by decide) hp (lv_sub hl [1, 2, 3, 4, 0] rfl) hf
    · exact hk130 u2 h _ _ ls ru2 hp (lv_sub hl [0, 1, 2] rfl) hf
def LX12_agrees_2 (F : Nat) (u0 : Nat) (u1 : Int) (k136 : HF → RO) (k116 : HF → RO) : Nat → Int → HF → RO
  | 0, _, _ => none
  | n + 1, v2, h =>
    zrd h (u0 + 4) u1 fun x1 =>
    if v2 < x1 then (
      zjn (fun (x130_2 : Int) (h : HF) => (
        zlet (wr (x130_2 + 1)) fun x2 =>
        LX12_agrees_2 F u0 u1 k136 k116 n x2 h
      )) fun j130 =>
      LX12_agrees_14 F u0 u1 v2 j130 k116 F 0 h
    ) else (
      k136  h
    )
set_option maxHeartbeats 4000000 in
set_option maxRecDepth 100000 in
theorem wX12_agrees_2 {p : Program} {l : Launch} {e : Env} {s : State} {m : MethodId} {args : Array Value} {below : List Frame} {meth : Method} {c : Code} {Q : State → Prop} {g : zG} {B : Nat} {o : Int × HF} (F : Nat) (cx : Cx p s m args meth c cX12_agrees 7 RX12 (some .boolean) g B) (u0 : Nat) (ru0 : kt u0 = 15) (u1 : Int) (ru1 : rng u1) (k136 : HF → RO) (hk136 : ∀  (h : HF) (H : Heap) (locs : List Loc) (ls : Array Slot), Hp g B s h H locs → lv_has ls 7 [] → k136  h = some o → W p l e (rmn 3) s m args below meth c H locs 0 0 Q (F0 m 136 ls [])) (k116 : HF → RO) (hk116 : ∀  (h : HF) (H : Heap) (locs : List Loc) (ls : Array Slot), Hp g B s h H locs → lv_has ls 7 [] → k116  h = some o → W p l e (rmn 3) s m args below meth c H locs 0 0 Q (F0 m 116 ls [])) : ∀ (n : Nat) (v2 : Int) (h : HF) (H : Heap) (locs : List Loc) (ls : Array Slot), rng v2 → Hp g B s h H locs → lv_has ls 7 [(0, .ref (B + u0)), (1, .int (ii u1)), (2, .int (ii v2))] → LX12_agrees_2 F u0 u1 k136 k116 n v2 h = some o → W p l e (rmn 3) s m args below meth c H locs 0 0 Q (F0 m 2 ls []) := by
  intro n
  induction n with
  | zero =>
    intro v2 h H locs ls rv2 hp hl hf
    cases hf
  | succ n ih =>
    intro v2 h H locs ls rv2 hp hl hf
    rw [LX12_agrees_2] at hf
    refine lv_iload_n cx.1 cx.2.1 dX12_agrees_2 rfl (lv_at hl 2 rfl) ?_
    refine lv_aload_n cx.1 cx.2.1 dX12_agrees_3 rfl (lv_at hl 0 rfl) ?_
    refine z_gets cx hp (T := TX12) 12 7 (u0 + 4) rfl zin_12 (by decide) (by decide) ru0 rfl fl_X12_19 dX12_agrees_4 ?_
    refine lv_iload_n cx.1 cx.2.1 dX12_agrees_7 rfl (lv_at hl 1 rfl) ?_
    refine z_iald cx hp (zs_12_7 u0 (kt_lt ru0 (by decide)) ru0) ru1 dX12_agrees_8 hf (fun x1 rx1 hf => ?_)
    refine z_icmp_ge cx rv2 rx1 (tgt := 136) dX12_agrees_9 (by decide) hf (fun _ hf => ?_) (fun _ hf => ?_)
    · refine z_iconst cx dX12_agrees_12 ?_
      refine lv_istore_n (lv' := [(3, .int (ii 0)), (0, .ref (B + u0)), (1, .int (ii u1)), (2, .int (ii v2))]) cx.1 cx.2.1 dX12_agrees_13 rfl hl (by decide) rfl (fun ls hl => ?_)
      refine z_jn hf (fun j => ∀ (x130_2 : Int) (h : HF) (H : Heap) (locs : List Loc) (ls : Array Slot), rng x130_2 → Hp g B s h H locs → lv_has ls 7 [(0, .ref (B + u0)), (1, .int (ii u1)), (2, .int (ii x130_2))] → j x130_2 h = some o → W p l e (rmn 3) s m args below meth c H locs 0 0 Q (F0 m 130 ls [])) ?_ (fun j130 hj130 hf => ?_)
      · intro x130_2 h H locs ls rx130_2 hp hl hf
        refine z_iinc cx (fun x2 => [(2, .int (ii x2)), (0, .ref (B + u0)), (1, .int (ii u1))]) dX12_agrees_130 hl (k := 2) rfl (by decide) (fun _ => rfl) hf (fun x2 rx2 hf ls hl => ?_)
        refine lv_goto (tgt := 2) cx.1 cx.2.1 dX12_agrees_133 (by decide) ?_
        exact ih x2 h _ _ ls rx2 hp (lv_sub hl [1, 2, 0] rfl) hf
      exact wX12_agrees_14 F cx u0 ru0 u1 ru1 v2 rv2 j130 hj130 k116 hk116 F 0 h _ _ ls (by decide) hp (lv_sub hl [1, 2, 3, 0] rfl) hf
    · exact hk136  h _ _ ls  hp (lv_sub hl [] rfl) hf
def fX12_agrees (F : Nat) (a0 : Nat) (a1 : Int) (h : HF) : RO :=
  zjn (fun  (h : HF) => (
    zrz 1 h
  )) fun j136 =>
  zjn (fun  (h : HF) => (
    zrz 0 h
  )) fun j116 =>
  LX12_agrees_2 F a0 a1 j136 j116 F 0 h
set_option maxHeartbeats 4000000 in
set_option maxRecDepth 100000 in
theorem mX12_agrees (F : Nat) (l : Launch) (g : zG) (B : Nat) (h : HF) (a0 : Nat) (a1 : Int) (ra0 : kt a0 = 15) (ra1 : rng a1) : CTi l g B yX12_agrees cX12_agrees 7 (some .boolean) 3 [.ref (B + a0), .int (ii a1)] h (fX12_agrees F a0 a1 h) := by
  refine z_enterI (by decide) rfl (Nat.le_of_ble_eq_true rfl) ?_
  intro p e s m args below meth c ls o Q cx hp hl hf hQ
  have hl : lv_has ls 7 [(0, .ref (B + a0)), (1, .int (ii a1))] := hl
  unfold fX12_agrees at hf
  refine z_iconst cx dX12_agrees_0 ?_
  refine lv_istore_n (lv' := [(2, .int (ii 0)), (0, .ref (B + a0)), (1, .int (ii a1))]) cx.1 cx.2.1 dX12_agrees_1 rfl hl (by decide) rfl (fun ls hl => ?_)
  refine z_jn hf (fun j => ∀  (h : HF) (H : Heap) (locs : List Loc) (ls : Array Slot), Hp g B s h H locs → lv_has ls 7 [] → j  h = some o → W p l e (rmn 3) s m args below meth c H locs 0 0 Q (F0 m 136 ls [])) ?_ (fun j136 hj136 hf => ?_)
  · intro  h H locs ls  hp hl hf
    refine z_iconst cx dX12_agrees_136 ?_
    rw [hQ]; exact z_zret cx hp dX12_agrees_137 hf
  refine z_jn hf (fun j => ∀  (h : HF) (H : Heap) (locs : List Loc) (ls : Array Slot), Hp g B s h H locs → lv_has ls 7 [] → j  h = some o → W p l e (rmn 3) s m args below meth c H locs 0 0 Q (F0 m 116 ls [])) ?_ (fun j116 hj116 hf => ?_)
  · intro  h H locs ls  hp hl hf
    refine z_iconst cx dX12_agrees_116 ?_
    rw [hQ]; exact z_zret cx hp dX12_agrees_117 hf
  exact wX12_agrees_2 F cx a0 ra0 a1 ra1 j136 hj136 j116 hj116 F 0 h _ _ ls (by decide) hp (lv_sub hl [1, 2, 0] rfl) hf
theorem dX12_nextLine_0 : decode cX12_nextLine 0 = .ok (.iload_n 1, 1) := by decide +kernel
theorem dX12_nextLine_1 : decode cX12_nextLine 1 = .ok (.iconst 1, 1) := by decide +kernel
theorem dX12_nextLine_2 : decode cX12_nextLine 2 = .ok (.isub, 1) := by decide +kernel
theorem dX12_nextLine_3 : decode cX12_nextLine 3 = .ok (.istore_n 2, 1) := by decide +kernel
theorem dX12_nextLine_4 : decode cX12_nextLine 4 = .ok (.iload_n 2, 1) := by decide +kernel
theorem dX12_nextLine_5 : decode cX12_nextLine 5 = .ok (.ifCond .lt 26, 3) := by decide +kernel
theorem dX12_nextLine_8 : decode cX12_nextLine 8 = .ok (.aload_n 0, 1) := by decide +kernel
theorem dX12_nextLine_9 : decode cX12_nextLine 9 = .ok (.getfield 85, 3) := by decide +kernel
theorem dX12_nextLine_12 : decode cX12_nextLine 12 = .ok (.iload_n 2, 1) := by decide +kernel
theorem dX12_nextLine_13 : decode cX12_nextLine 13 = .ok (.iaload, 1) := by decide +kernel
theorem dX12_nextLine_14 : decode cX12_nextLine 14 = .ok (.iload_n 2, 1) := by decide +kernel
theorem dX12_nextLine_15 : decode cX12_nextLine 15 = .ok (.if_icmp .ne 16, 3) := by decide +kernel
theorem dX12_nextLine_18 : decode cX12_nextLine 18 = .ok (.aload_n 0, 1) := by decide +kernel
theorem dX12_nextLine_19 : decode cX12_nextLine 19 = .ok (.getfield 85, 3) := by decide +kernel
theorem dX12_nextLine_22 : decode cX12_nextLine 22 = .ok (.iload_n 2, 1) := by decide +kernel
theorem dX12_nextLine_23 : decode cX12_nextLine 23 = .ok (.iconst 0, 1) := by decide +kernel
theorem dX12_nextLine_24 : decode cX12_nextLine 24 = .ok (.iastore, 1) := by decide +kernel
theorem dX12_nextLine_25 : decode cX12_nextLine 25 = .ok (.iinc 2 (-1), 3) := by decide +kernel
theorem dX12_nextLine_28 : decode cX12_nextLine 28 = .ok (.goto (-24), 3) := by decide +kernel
theorem dX12_nextLine_31 : decode cX12_nextLine 31 = .ok (.iload_n 2, 1) := by decide +kernel
theorem dX12_nextLine_32 : decode cX12_nextLine 32 = .ok (.ifCond .ge 5, 3) := by decide +kernel
theorem dX12_nextLine_35 : decode cX12_nextLine 35 = .ok (.iconst 0, 1) := by decide +kernel
theorem dX12_nextLine_36 : decode cX12_nextLine 36 = .ok (.ireturn, 1) := by decide +kernel
theorem dX12_nextLine_37 : decode cX12_nextLine 37 = .ok (.aload_n 0, 1) := by decide +kernel
theorem dX12_nextLine_38 : decode cX12_nextLine 38 = .ok (.getfield 85, 3) := by decide +kernel
theorem dX12_nextLine_41 : decode cX12_nextLine 41 = .ok (.iload_n 2, 1) := by decide +kernel
theorem dX12_nextLine_42 : decode cX12_nextLine 42 = .ok (.dup2, 1) := by decide +kernel
theorem dX12_nextLine_43 : decode cX12_nextLine 43 = .ok (.iaload, 1) := by decide +kernel
theorem dX12_nextLine_44 : decode cX12_nextLine 44 = .ok (.iconst 1, 1) := by decide +kernel
theorem dX12_nextLine_45 : decode cX12_nextLine 45 = .ok (.iadd, 1) := by decide +kernel
theorem dX12_nextLine_46 : decode cX12_nextLine 46 = .ok (.iastore, 1) := by decide +kernel
theorem dX12_nextLine_47 : decode cX12_nextLine 47 = .ok (.iconst 1, 1) := by decide +kernel
theorem dX12_nextLine_48 : decode cX12_nextLine 48 = .ok (.ireturn, 1) := by decide +kernel
def LX12_nextLine_4 (F : Nat) (u0 : Nat) (k31 : Int → HF → RO) : Nat → Int → HF → RO
  | 0, _, _ => none
  | n + 1, v2, h =>
    if v2 < 0 then (
      k31 v2 h
    ) else (
      zrd h (u0 + 26) v2 fun x3 =>
      if x3 = v2 then (
        zwr h (u0 + 26) v2 0 fun h =>
        zlet (wr (v2 + (-1))) fun x4 =>
        LX12_nextLine_4 F u0 k31 n x4 h
      ) else (
        k31 v2 h
      )
    )
set_option maxHeartbeats 4000000 in
set_option maxRecDepth 100000 in
theorem wX12_nextLine_4 {p : Program} {l : Launch} {e : Env} {s : State} {m : MethodId} {args : Array Value} {below : List Frame} {meth : Method} {c : Code} {Q : State → Prop} {g : zG} {B : Nat} {o : Int × HF} (F : Nat) (cx : Cx p s m args meth c cX12_nextLine 3 RX12 (some .boolean) g B) (u0 : Nat) (ru0 : kt u0 = 15) (k31 : Int → HF → RO) (hk31 : ∀ (x2 : Int) (h : HF) (H : Heap) (locs : List Loc) (ls : Array Slot), rng x2 → Hp g B s h H locs → lv_has ls 3 [(0, .ref (B + u0)), (2, .int (ii x2))] → k31 x2 h = some o → W p l e (rmn 0) s m args below meth c H locs 0 0 Q (F0 m 31 ls [])) : ∀ (n : Nat) (v2 : Int) (h : HF) (H : Heap) (locs : List Loc) (ls : Array Slot), rng v2 → Hp g B s h H locs → lv_has ls 3 [(0, .ref (B + u0)), (2, .int (ii v2))] → LX12_nextLine_4 F u0 k31 n v2 h = some o → W p l e (rmn 0) s m args below meth c H locs 0 0 Q (F0 m 4 ls []) := by
  intro n
  induction n with
  | zero =>
    intro v2 h H locs ls rv2 hp hl hf
    cases hf
  | succ n ih =>
    intro v2 h H locs ls rv2 hp hl hf
    rw [LX12_nextLine_4] at hf
    refine lv_iload_n cx.1 cx.2.1 dX12_nextLine_4 rfl (lv_at hl 1 rfl) ?_
    refine z_if_lt cx rv2 (tgt := 31) dX12_nextLine_5 (by decide) hf (fun _ hf => ?_) (fun _ hf => ?_)
    · exact hk31 v2 h _ _ ls rv2 hp (lv_sub hl [0, 1] rfl) hf
    · refine lv_aload_n cx.1 cx.2.1 dX12_nextLine_8 rfl (lv_at hl 0 rfl) ?_
      refine z_gets cx hp (T := TX12) 12 42 (u0 + 26) rfl zin_12 (by decide) (by decide) ru0 rfl fl_X12_85 dX12_nextLine_9 ?_
      refine lv_iload_n cx.1 cx.2.1 dX12_nextLine_12 rfl (lv_at hl 1 rfl) ?_
      refine z_iald cx hp (zs_12_42 u0 (kt_lt ru0 (by decide)) ru0) rv2 dX12_nextLine_13 hf (fun x3 rx3 hf => ?_)
      refine lv_iload_n cx.1 cx.2.1 dX12_nextLine_14 rfl (lv_at hl 1 rfl) ?_
      refine z_icmp_ne cx rx3 rv2 (tgt := 31) dX12_nextLine_15 (by decide) hf (fun _ hf => ?_) (fun _ hf => ?_)
      · refine lv_aload_n cx.1 cx.2.1 dX12_nextLine_18 rfl (lv_at hl 0 rfl) ?_
        refine z_gets cx hp (T := TX12) 12 42 (u0 + 26) rfl zin_12 (by decide) (by decide) ru0 rfl fl_X12_85 dX12_nextLine_19 ?_
        refine lv_iload_n cx.1 cx.2.1 dX12_nextLine_22 rfl (lv_at hl 1 rfl) ?_
        refine z_iconst cx dX12_nextLine_23 ?_
        refine z_iast cx hp (zs_12_42 u0 (kt_lt ru0 (by decide)) ru0) rv2 (by decide) dX12_nextLine_24 hf (fun h H locs hp hf => ?_)
        refine z_iinc cx (fun x4 => [(2, .int (ii x4)), (0, .ref (B + u0))]) dX12_nextLine_25 hl (k := 1) rfl (by decide) (fun _ => rfl) hf (fun x4 rx4 hf ls hl => ?_)
        refine lv_goto (tgt := 4) cx.1 cx.2.1 dX12_nextLine_28 (by decide) ?_
        exact ih x4 h _ _ ls rx4 hp (lv_sub hl [1, 0] rfl) hf
      · exact hk31 v2 h _ _ ls rv2 hp (lv_sub hl [0, 1] rfl) hf
def fX12_nextLine (F : Nat) (a0 : Nat) (a1 : Int) (h : HF) : RO :=
  zlet (wr (a1 - 1)) fun x1 =>
  zjn (fun (x31_2 : Int) (h : HF) => (
    if x31_2 < 0 then (
      zrz 0 h
    ) else (
      zrd h (a0 + 26) x31_2 fun x2 =>
      zwr h (a0 + 26) x31_2 (wr (x2 + 1)) fun h =>
      zrz 1 h
    )
  )) fun j31 =>
  LX12_nextLine_4 F a0 j31 F x1 h
set_option maxHeartbeats 4000000 in
set_option maxRecDepth 100000 in
theorem mX12_nextLine (F : Nat) (l : Launch) (g : zG) (B : Nat) (h : HF) (a0 : Nat) (a1 : Int) (ra0 : kt a0 = 15) (ra1 : rng a1) : CTi l g B yX12_nextLine cX12_nextLine 3 (some .boolean) 0 [.ref (B + a0), .int (ii a1)] h (fX12_nextLine F a0 a1 h) := by
  refine z_enterI (by decide) rfl (Nat.le_of_ble_eq_true rfl) ?_
  intro p e s m args below meth c ls o Q cx hp hl hf hQ
  have hl : lv_has ls 3 [(0, .ref (B + a0)), (1, .int (ii a1))] := hl
  unfold fX12_nextLine at hf
  refine lv_iload_n cx.1 cx.2.1 dX12_nextLine_0 rfl (lv_at hl 1 rfl) ?_
  refine z_iconst cx dX12_nextLine_1 ?_
  refine z_isub cx dX12_nextLine_2 ?_
  refine z_let (rng_wr _) hf (fun x1 rx1 hf => ?_)
  refine lv_istore_n (lv' := [(2, .int (ii x1)), (0, .ref (B + a0)), (1, .int (ii a1))]) cx.1 cx.2.1 dX12_nextLine_3 rfl hl (by decide) rfl (fun ls hl => ?_)
  refine z_jn hf (fun j => ∀ (x31_2 : Int) (h : HF) (H : Heap) (locs : List Loc) (ls : Array Slot), rng x31_2 → Hp g B s h H locs → lv_has ls 3 [(0, .ref (B + a0)), (2, .int (ii x31_2))] → j x31_2 h = some o → W p l e (rmn 0) s m args below meth c H locs 0 0 Q (F0 m 31 ls [])) ?_ (fun j31 hj31 hf => ?_)
  · intro x31_2 h H locs ls rx31_2 hp hl hf
    refine lv_iload_n cx.1 cx.2.1 dX12_nextLine_31 rfl (lv_at hl 1 rfl) ?_
    refine z_if_ge cx rx31_2 (tgt := 37) dX12_nextLine_32 (by decide) hf (fun _ hf => ?_) (fun _ hf => ?_)
    · refine z_iconst cx dX12_nextLine_35 ?_
      rw [hQ]; exact z_zret cx hp dX12_nextLine_36 hf
    · refine lv_aload_n cx.1 cx.2.1 dX12_nextLine_37 rfl (lv_at hl 0 rfl) ?_
      refine z_gets cx hp (T := TX12) 12 42 (a0 + 26) rfl zin_12 (by decide) (by decide) ra0 rfl fl_X12_85 dX12_nextLine_38 ?_
      refine lv_iload_n cx.1 cx.2.1 dX12_nextLine_41 rfl (lv_at hl 1 rfl) ?_
      refine lv_dup2_11 cx.1 cx.2.1 dX12_nextLine_42 rfl rfl ?_
      refine z_iald cx hp (zs_12_42 a0 (kt_lt ra0 (by decide)) ra0) rx31_2 dX12_nextLine_43 hf (fun x2 rx2 hf => ?_)
      refine z_iconst cx dX12_nextLine_44 ?_
      refine z_iadd cx dX12_nextLine_45 ?_
      refine z_iast cx hp (zs_12_42 a0 (kt_lt ra0 (by decide)) ra0) rx31_2 (rng_wr _) dX12_nextLine_46 hf (fun h H locs hp hf => ?_)
      refine z_iconst cx dX12_nextLine_47 ?_
      rw [hQ]; exact z_zret cx hp dX12_nextLine_48 hf
  exact wX12_nextLine_4 F cx a0 ra0 j31 hj31 F x1 h _ _ ls rx1 hp (lv_sub hl [1, 0] rfl) hf
theorem dX12_firstLine_0 : decode cX12_firstLine 0 = .ok (.iconst 0, 1) := by decide +kernel
theorem dX12_firstLine_1 : decode cX12_firstLine 1 = .ok (.istore_n 1, 1) := by decide +kernel
theorem dX12_firstLine_2 : decode cX12_firstLine 2 = .ok (.iload_n 1, 1) := by decide +kernel
theorem dX12_firstLine_3 : decode cX12_firstLine 3 = .ok (.bipush 7, 2) := by decide +kernel
theorem dX12_firstLine_5 : decode cX12_firstLine 5 = .ok (.if_icmp .ge 16, 3) := by decide +kernel
theorem dX12_firstLine_8 : decode cX12_firstLine 8 = .ok (.aload_n 0, 1) := by decide +kernel
theorem dX12_firstLine_9 : decode cX12_firstLine 9 = .ok (.getfield 85, 3) := by decide +kernel
theorem dX12_firstLine_12 : decode cX12_firstLine 12 = .ok (.iload_n 1, 1) := by decide +kernel
theorem dX12_firstLine_13 : decode cX12_firstLine 13 = .ok (.iconst 0, 1) := by decide +kernel
theorem dX12_firstLine_14 : decode cX12_firstLine 14 = .ok (.iastore, 1) := by decide +kernel
theorem dX12_firstLine_15 : decode cX12_firstLine 15 = .ok (.iinc 1 1, 3) := by decide +kernel
theorem dX12_firstLine_18 : decode cX12_firstLine 18 = .ok (.goto (-16), 3) := by decide +kernel
theorem dX12_firstLine_21 : decode cX12_firstLine 21 = .ok (.return_, 1) := by decide +kernel
def LX12_firstLine_2 (F : Nat) (u0 : Nat) (k21 : HF → RO) : Nat → Int → HF → RO
  | 0, _, _ => none
  | n + 1, v1, h =>
    if v1 < 7 then (
      zwr h (u0 + 26) v1 0 fun h =>
      zlet (wr (v1 + 1)) fun x1 =>
      LX12_firstLine_2 F u0 k21 n x1 h
    ) else (
      k21  h
    )
set_option maxHeartbeats 4000000 in
set_option maxRecDepth 100000 in
theorem wX12_firstLine_2 {p : Program} {l : Launch} {e : Env} {s : State} {m : MethodId} {args : Array Value} {below : List Frame} {meth : Method} {c : Code} {Q : State → Prop} {g : zG} {B : Nat} {o : Int × HF} (F : Nat) (cx : Cx p s m args meth c cX12_firstLine 2 RX12 none g B) (u0 : Nat) (ru0 : kt u0 = 15) (k21 : HF → RO) (hk21 : ∀  (h : HF) (H : Heap) (locs : List Loc) (ls : Array Slot), Hp g B s h H locs → lv_has ls 2 [] → k21  h = some o → W p l e (rmn 0) s m args below meth c H locs 0 0 Q (F0 m 21 ls [])) : ∀ (n : Nat) (v1 : Int) (h : HF) (H : Heap) (locs : List Loc) (ls : Array Slot), rng v1 → Hp g B s h H locs → lv_has ls 2 [(0, .ref (B + u0)), (1, .int (ii v1))] → LX12_firstLine_2 F u0 k21 n v1 h = some o → W p l e (rmn 0) s m args below meth c H locs 0 0 Q (F0 m 2 ls []) := by
  intro n
  induction n with
  | zero =>
    intro v1 h H locs ls rv1 hp hl hf
    cases hf
  | succ n ih =>
    intro v1 h H locs ls rv1 hp hl hf
    rw [LX12_firstLine_2] at hf
    refine lv_iload_n cx.1 cx.2.1 dX12_firstLine_2 rfl (lv_at hl 1 rfl) ?_
    refine z_bipush cx (by decide) dX12_firstLine_3 ?_
    refine z_icmp_ge cx rv1 (by decide) (tgt := 21) dX12_firstLine_5 (by decide) hf (fun _ hf => ?_) (fun _ hf => ?_)
    · refine lv_aload_n cx.1 cx.2.1 dX12_firstLine_8 rfl (lv_at hl 0 rfl) ?_
      refine z_gets cx hp (T := TX12) 12 42 (u0 + 26) rfl zin_12 (by decide) (by decide) ru0 rfl fl_X12_85 dX12_firstLine_9 ?_
      refine lv_iload_n cx.1 cx.2.1 dX12_firstLine_12 rfl (lv_at hl 1 rfl) ?_
      refine z_iconst cx dX12_firstLine_13 ?_
      refine z_iast cx hp (zs_12_42 u0 (kt_lt ru0 (by decide)) ru0) rv1 (by decide) dX12_firstLine_14 hf (fun h H locs hp hf => ?_)
      refine z_iinc cx (fun x1 => [(1, .int (ii x1)), (0, .ref (B + u0))]) dX12_firstLine_15 hl (k := 1) rfl (by decide) (fun _ => rfl) hf (fun x1 rx1 hf ls hl => ?_)
      refine lv_goto (tgt := 2) cx.1 cx.2.1 dX12_firstLine_18 (by decide) ?_
      exact ih x1 h _ _ ls rx1 hp (lv_sub hl [1, 0] rfl) hf
    · exact hk21  h _ _ ls  hp (lv_sub hl [] rfl) hf
def fX12_firstLine (F : Nat) (a0 : Nat) (h : HF) : RO :=
  zjn (fun  (h : HF) => (
    some (0, h)
  )) fun j21 =>
  LX12_firstLine_2 F a0 j21 F 0 h
set_option maxHeartbeats 4000000 in
set_option maxRecDepth 100000 in
theorem mX12_firstLine (F : Nat) (l : Launch) (g : zG) (B : Nat) (h : HF) (a0 : Nat) (ra0 : kt a0 = 15) : CTv l g B yX12_firstLine cX12_firstLine 2 0 [.ref (B + a0)] h (fX12_firstLine F a0 h) := by
  refine z_enterV (by decide) rfl (Nat.le_of_ble_eq_true rfl) ?_
  intro p e s m args below meth c ls o Q cx hp hl hf hQ
  have hl : lv_has ls 2 [(0, .ref (B + a0))] := hl
  unfold fX12_firstLine at hf
  refine z_iconst cx dX12_firstLine_0 ?_
  refine lv_istore_n (lv' := [(1, .int (ii 0)), (0, .ref (B + a0))]) cx.1 cx.2.1 dX12_firstLine_1 rfl hl (by decide) rfl (fun ls hl => ?_)
  refine z_jn hf (fun j => ∀  (h : HF) (H : Heap) (locs : List Loc) (ls : Array Slot), Hp g B s h H locs → lv_has ls 2 [] → j  h = some o → W p l e (rmn 0) s m args below meth c H locs 0 0 Q (F0 m 21 ls [])) ?_ (fun j21 hj21 hf => ?_)
  · intro  h H locs ls  hp hl hf
    rw [hQ]; exact z_vret cx hp dX12_firstLine_21 hf
  exact wX12_firstLine_2 F cx a0 ra0 j21 hj21 F 0 h _ _ ls (by decide) hp (lv_sub hl [1, 0] rfl) hf
theorem dX12_findCongruence_0 : decode cX12_findCongruence 0 = .ok (.aload_n 0, 1) := by decide +kernel
theorem dX12_findCongruence_1 : decode cX12_findCongruence 1 = .ok (.iconst 0, 1) := by decide +kernel
theorem dX12_findCongruence_2 : decode cX12_findCongruence 2 = .ok (.putfield 311, 3) := by decide +kernel
theorem dX12_findCongruence_5 : decode cX12_findCongruence 5 = .ok (.aload_n 0, 1) := by decide +kernel
theorem dX12_findCongruence_6 : decode cX12_findCongruence 6 = .ok (.invokevirtual 314, 3) := by decide +kernel
theorem dX12_findCongruence_9 : decode cX12_findCongruence 9 = .ok (.iconst 1, 1) := by decide +kernel
theorem dX12_findCongruence_10 : decode cX12_findCongruence 10 = .ok (.istore_n 3, 1) := by decide +kernel
theorem dX12_findCongruence_11 : decode cX12_findCongruence 11 = .ok (.iload_n 3, 1) := by decide +kernel
theorem dX12_findCongruence_12 : decode cX12_findCongruence 12 = .ok (.ifCond .eq 58, 3) := by decide +kernel
theorem dX12_findCongruence_15 : decode cX12_findCongruence 15 = .ok (.aload_n 0, 1) := by decide +kernel
theorem dX12_findCongruence_16 : decode cX12_findCongruence 16 = .ok (.aload_n 0, 1) := by decide +kernel
theorem dX12_findCongruence_17 : decode cX12_findCongruence 17 = .ok (.getfield 16, 3) := by decide +kernel
theorem dX12_findCongruence_20 : decode cX12_findCongruence 20 = .ok (.iload_n 1, 1) := by decide +kernel
theorem dX12_findCongruence_21 : decode cX12_findCongruence 21 = .ok (.iaload, 1) := by decide +kernel
theorem dX12_findCongruence_22 : decode cX12_findCongruence 22 = .ok (.invokevirtual 317, 3) := by decide +kernel
theorem dX12_findCongruence_25 : decode cX12_findCongruence 25 = .ok (.ifCond .eq 31, 3) := by decide +kernel
theorem dX12_findCongruence_28 : decode cX12_findCongruence 28 = .ok (.aload_n 0, 1) := by decide +kernel
theorem dX12_findCongruence_29 : decode cX12_findCongruence 29 = .ok (.iload_n 1, 1) := by decide +kernel
theorem dX12_findCongruence_30 : decode cX12_findCongruence 30 = .ok (.invokevirtual 320, 3) := by decide +kernel
theorem dX12_findCongruence_33 : decode cX12_findCongruence 33 = .ok (.ifCond .eq 23, 3) := by decide +kernel
theorem dX12_findCongruence_36 : decode cX12_findCongruence 36 = .ok (.aload_n 0, 1) := by decide +kernel
theorem dX12_findCongruence_37 : decode cX12_findCongruence 37 = .ok (.getfield 311, 3) := by decide +kernel
theorem dX12_findCongruence_40 : decode cX12_findCongruence 40 = .ok (.iload_n 2, 1) := by decide +kernel
theorem dX12_findCongruence_41 : decode cX12_findCongruence 41 = .ok (.if_icmp .ne 5, 3) := by decide +kernel
theorem dX12_findCongruence_44 : decode cX12_findCongruence 44 = .ok (.iconst 1, 1) := by decide +kernel
theorem dX12_findCongruence_45 : decode cX12_findCongruence 45 = .ok (.ireturn, 1) := by decide +kernel
theorem dX12_findCongruence_46 : decode cX12_findCongruence 46 = .ok (.aload_n 0, 1) := by decide +kernel
theorem dX12_findCongruence_47 : decode cX12_findCongruence 47 = .ok (.dup, 1) := by decide +kernel
theorem dX12_findCongruence_48 : decode cX12_findCongruence 48 = .ok (.getfield 311, 3) := by decide +kernel
theorem dX12_findCongruence_51 : decode cX12_findCongruence 51 = .ok (.iconst 1, 1) := by decide +kernel
theorem dX12_findCongruence_52 : decode cX12_findCongruence 52 = .ok (.iadd, 1) := by decide +kernel
theorem dX12_findCongruence_53 : decode cX12_findCongruence 53 = .ok (.putfield 311, 3) := by decide +kernel
theorem dX12_findCongruence_56 : decode cX12_findCongruence 56 = .ok (.aload_n 0, 1) := by decide +kernel
theorem dX12_findCongruence_57 : decode cX12_findCongruence 57 = .ok (.aload_n 0, 1) := by decide +kernel
theorem dX12_findCongruence_58 : decode cX12_findCongruence 58 = .ok (.getfield 16, 3) := by decide +kernel
theorem dX12_findCongruence_61 : decode cX12_findCongruence 61 = .ok (.iload_n 1, 1) := by decide +kernel
theorem dX12_findCongruence_62 : decode cX12_findCongruence 62 = .ok (.iaload, 1) := by decide +kernel
theorem dX12_findCongruence_63 : decode cX12_findCongruence 63 = .ok (.invokevirtual 323, 3) := by decide +kernel
theorem dX12_findCongruence_66 : decode cX12_findCongruence 66 = .ok (.istore_n 3, 1) := by decide +kernel
theorem dX12_findCongruence_67 : decode cX12_findCongruence 67 = .ok (.goto (-56), 3) := by decide +kernel
theorem dX12_findCongruence_70 : decode cX12_findCongruence 70 = .ok (.iconst 0, 1) := by decide +kernel
theorem dX12_findCongruence_71 : decode cX12_findCongruence 71 = .ok (.ireturn, 1) := by decide +kernel
def LX12_findCongruence_11 (F : Nat) (u0 : Nat) (u1 : Int) (u2 : Int) (k70 : HF → RO) (k44 : HF → RO) : Nat → Int → HF → RO
  | 0, _, _ => none
  | n + 1, v3, h =>
    if v3 = 0 then (
      k70  h
    ) else (
      zrd h (u0 + 3) u1 fun x2 =>
      zbd (fX12_isLine F u0 x2 h) fun r3 h =>
      zjn (fun  (h : HF) => (
        zrd h (u0 + 3) u1 fun x4 =>
        zbd (fX12_nextLine F u0 x4 h) fun r5 h =>
        LX12_findCongruence_11 F u0 u1 u2 k70 k44 n r5 h
      )) fun j56 =>
      if r3 = 0 then (
        j56  h
      ) else (
        zbd (fX12_agrees F u0 u1 h) fun r6 h =>
        if r6 = 0 then (
          j56  h
        ) else (
          zgf h u0 43 fun x7 =>
          if x7 = u2 then (
            k44  h
          ) else (
            zgf h u0 43 fun x8 =>
            zpf h u0 43 (wr (x8 + 1)) fun h =>
            j56  h
          )
        )
      )
    )
set_option maxHeartbeats 4000000 in
set_option maxRecDepth 100000 in
theorem wX12_findCongruence_11 {p : Program} {l : Launch} {e : Env} {s : State} {m : MethodId} {args : Array Value} {below : List Frame} {meth : Method} {c : Code} {Q : State → Prop} {g : zG} {B : Nat} {o : Int × HF} (F : Nat) (cx : Cx p s m args meth c cX12_findCongruence 4 RX12 (some .boolean) g B) (u0 : Nat) (ru0 : kt u0 = 15) (u1 : Int) (ru1 : rng u1) (u2 : Int) (ru2 : rng u2) (k70 : HF → RO) (hk70 : ∀  (h : HF) (H : Heap) (locs : List Loc) (ls : Array Slot), Hp g B s h H locs → lv_has ls 4 [] → k70  h = some o → W p l e (rmn 4) s m args below meth c H locs 0 0 Q (F0 m 70 ls [])) (k44 : HF → RO) (hk44 : ∀  (h : HF) (H : Heap) (locs : List Loc) (ls : Array Slot), Hp g B s h H locs → lv_has ls 4 [] → k44  h = some o → W p l e (rmn 4) s m args below meth c H locs 0 0 Q (F0 m 44 ls [])) : ∀ (n : Nat) (v3 : Int) (h : HF) (H : Heap) (locs : List Loc) (ls : Array Slot), rng v3 → Hp g B s h H locs → lv_has ls 4 [(0, .ref (B + u0)), (1, .int (ii u1)), (2, .int (ii u2)), (3, .int (ii v3))] → LX12_findCongruence_11 F u0 u1 u2 k70 k44 n v3 h = some o → W p l e (rmn 4) s m args below meth c H locs 0 0 Q (F0 m 11 ls []) := by
  intro n
  induction n with
  | zero =>
    intro v3 h H locs ls rv3 hp hl hf
    cases hf
  | succ n ih =>
    intro v3 h H locs ls rv3 hp hl hf
    rw [LX12_findCongruence_11] at hf
    refine lv_iload_n cx.1 cx.2.1 dX12_findCongruence_11 rfl (lv_at hl 3 rfl) ?_
    refine z_if_eq cx rv3 (tgt := 70) dX12_findCongruence_12 (by decide) hf (fun _ hf => ?_) (fun _ hf => ?_)
    · exact hk70  h _ _ ls  hp (lv_sub hl [] rfl) hf
    · refine lv_aload_n cx.1 cx.2.1 dX12_findCongruence_15 rfl (lv_at hl 0 rfl) ?_
      refine lv_aload_n cx.1 cx.2.1 dX12_findCongruence_16 rfl (lv_at hl 0 rfl) ?_
      refine z_gets cx hp (T := TX12) 12 6 (u0 + 3) rfl zin_12 (by decide) (by decide) ru0 rfl fl_X12_16 dX12_findCongruence_17 ?_
      refine lv_iload_n cx.1 cx.2.1 dX12_findCongruence_20 rfl (lv_at hl 1 rfl) ?_
      refine z_iald cx hp (zs_12_6 u0 (kt_lt ru0 (by decide)) ru0) ru1 dX12_findCongruence_21 hf (fun x2 rx2 hf => ?_)
      refine z_ci cx hp (fun o' hx => zrunV (n := 4) (As := [.int (ii x2)]) (rest := []) cx hp (mX12_isLine F l g B h u0 x2 ru0 rx2 o' hx) 12 ru0 (by decide) rfl vw_X12_isLine ml_X12_317 (by decide) rfl hl.1 rfl (Nat.le_of_ble_eq_true rfl) dX12_findCongruence_22) hf (fun r3 h H locs rr3 hp hf => ?_)
      refine z_jn hf (fun j => ∀  (h : HF) (H : Heap) (locs : List Loc) (ls : Array Slot), Hp g B s h H locs → lv_has ls 4 [(0, .ref (B + u0)), (1, .int (ii u1)), (2, .int (ii u2))] → j  h = some o → W p l e (rmn 4) s m args below meth c H locs 0 0 Q (F0 m 56 ls [])) ?_ (fun j56 hj56 hf => ?_)
      · intro  h H locs ls  hp hl hf
        refine lv_aload_n cx.1 cx.2.1 dX12_findCongruence_56 rfl (lv_at hl 0 rfl) ?_
        refine lv_aload_n cx.1 cx.2.1 dX12_findCongruence_57 rfl (lv_at hl 0 rfl) ?_
        refine z_gets cx hp (T := TX12) 12 6 (u0 + 3) rfl zin_12 (by decide) (by decide) ru0 rfl fl_X12_16 dX12_findCongruence_58 ?_
        refine lv_iload_n cx.1 cx.2.1 dX12_findCongruence_61 rfl (lv_at hl 1 rfl) ?_
        refine z_iald cx hp (zs_12_6 u0 (kt_lt ru0 (by decide)) ru0) ru1 dX12_findCongruence_62 hf (fun x4 rx4 hf => ?_)
        refine z_ci cx hp (fun o' hx => zrunV (n := 4) (As := [.int (ii x4)]) (rest := []) cx hp (mX12_nextLine F l g B h u0 x4 ru0 rx4 o' hx) 12 ru0 (by decide) rfl vw_X12_nextLine ml_X12_323 (by decide) rfl hl.1 rfl (Nat.le_of_ble_eq_true rfl) dX12_findCongruence_63) hf (fun r5 h H locs rr5 hp hf => ?_)
        refine lv_istore_n (lv' := [(3, .int (ii r5)), (0, .ref (B + u0)), (1, .int (ii u1)), (2, .int (ii u2))]) cx.1 cx.2.1 dX12_findCongruence_66 rfl hl (by decide) rfl (fun ls hl => ?_)
        refine lv_goto (tgt := 11) cx.1 cx.2.1 dX12_findCongruence_67 (by decide) ?_
        exact ih r5 h _ _ ls rr5 hp (lv_sub hl [1, 2, 3, 0] rfl) hf
      refine z_if_eq cx rr3 (tgt := 56) dX12_findCongruence_25 (by decide) hf (fun _ hf => ?_) (fun _ hf => ?_)
      · exact hj56  h _ _ ls  hp (lv_sub hl [0, 1, 2] rfl) hf
      · refine lv_aload_n cx.1 cx.2.1 dX12_findCongruence_28 rfl (lv_at hl 0 rfl) ?_
        refine lv_iload_n cx.1 cx.2.1 dX12_findCongruence_29 rfl (lv_at hl 1 rfl) ?_
        refine z_ci cx hp (fun o' hx => zrunV (n := 4) (As := [.int (ii u1)]) (rest := []) cx hp (mX12_agrees F l g B h u0 u1 ru0 ru1 o' hx) 12 ru0 (by decide) rfl vw_X12_agrees ml_X12_320 (by decide) rfl hl.1 rfl (Nat.le_of_ble_eq_true rfl) dX12_findCongruence_30) hf (fun r6 h H locs rr6 hp hf => ?_)
        refine z_if_eq cx rr6 (tgt := 56) dX12_findCongruence_33 (by decide) hf (fun _ hf => ?_) (fun _ hf => ?_)
        · exact hj56  h _ _ ls  hp (lv_sub hl [0, 1, 2] rfl) hf
        · refine lv_aload_n cx.1 cx.2.1 dX12_findCongruence_36 rfl (lv_at hl 0 rfl) ?_
          refine z_geti cx hp (T := TX12) 12 43 rfl zin_12 (by decide) (by decide) ru0 rfl fl_X12_311 dX12_findCongruence_37 hf (fun x7 rx7 hf => ?_)
          refine lv_iload_n cx.1 cx.2.1 dX12_findCongruence_40 rfl (lv_at hl 2 rfl) ?_
          refine z_icmp_ne cx rx7 ru2 (tgt := 46) dX12_findCongruence_41 (by decide) hf (fun _ hf => ?_) (fun _ hf => ?_)
          · exact hk44  h _ _ ls  hp (lv_sub hl [] rfl) hf
          · refine lv_aload_n cx.1 cx.2.1 dX12_findCongruence_46 rfl (lv_at hl 0 rfl) ?_
            refine lv_dup cx.1 cx.2.1 dX12_findCongruence_47 rfl ?_
            refine z_geti cx hp (T := TX12) 12 43 rfl zin_12 (by decide) (by decide) ru0 rfl fl_X12_311 dX12_findCongruence_48 hf (fun x8 rx8 hf => ?_)
            refine z_iconst cx dX12_findCongruence_51 ?_
            refine z_iadd cx dX12_findCongruence_52 ?_
            refine z_puti cx hp (T := TX12) tyX12 tyX12_ok nmX12 12 43 (rng_wr _) rfl zin_12 (by decide) (by decide) ru0 rfl rfl rfl fl_X12_311 dX12_findCongruence_53 hf (fun h H locs hp hf => ?_)
            exact hj56  h _ _ ls  hp (lv_sub hl [0, 1, 2] rfl) hf
def fX12_findCongruence (F : Nat) (a0 : Nat) (a1 : Int) (a2 : Int) (h : HF) : RO :=
  zpf h a0 43 0 fun h =>
  zbd (fX12_firstLine F a0 h) fun _ h =>
  zjn (fun  (h : HF) => (
    zrz 0 h
  )) fun j70 =>
  zjn (fun  (h : HF) => (
    zrz 1 h
  )) fun j44 =>
  LX12_findCongruence_11 F a0 a1 a2 j70 j44 F 1 h
set_option maxHeartbeats 4000000 in
set_option maxRecDepth 100000 in
theorem mX12_findCongruence (F : Nat) (l : Launch) (g : zG) (B : Nat) (h : HF) (a0 : Nat) (a1 : Int) (a2 : Int) (ra0 : kt a0 = 15) (ra1 : rng a1) (ra2 : rng a2) : CTi l g B yX12_findCongruence cX12_findCongruence 4 (some .boolean) 4 [.ref (B + a0), .int (ii a1), .int (ii a2)] h (fX12_findCongruence F a0 a1 a2 h) := by
  refine z_enterI (by decide) rfl (Nat.le_of_ble_eq_true rfl) ?_
  intro p e s m args below meth c ls o Q cx hp hl hf hQ
  have hl : lv_has ls 4 [(0, .ref (B + a0)), (1, .int (ii a1)), (2, .int (ii a2))] := hl
  unfold fX12_findCongruence at hf
  refine lv_aload_n cx.1 cx.2.1 dX12_findCongruence_0 rfl (lv_at hl 0 rfl) ?_
  refine z_iconst cx dX12_findCongruence_1 ?_
  refine z_puti cx hp (T := TX12) tyX12 tyX12_ok nmX12 12 43 (by decide) rfl zin_12 (by decide) (by decide) ra0 rfl rfl rfl fl_X12_311 dX12_findCongruence_2 hf (fun h H locs hp hf => ?_)
  refine lv_aload_n cx.1 cx.2.1 dX12_findCongruence_5 rfl (lv_at hl 0 rfl) ?_
  refine z_cv cx hp (fun o' hx => zrunV (n := 4) (As := []) (rest := []) cx hp (mX12_firstLine F l g B h a0 ra0 o' hx) 12 ra0 (by decide) rfl vw_X12_firstLine ml_X12_314 (by decide) rfl hl.1 rfl (Nat.le_of_ble_eq_true rfl) dX12_findCongruence_6) hf (fun _ h H locs hp hf => ?_)
  refine z_iconst cx dX12_findCongruence_9 ?_
  refine lv_istore_n (lv' := [(3, .int (ii 1)), (0, .ref (B + a0)), (1, .int (ii a1)), (2, .int (ii a2))]) cx.1 cx.2.1 dX12_findCongruence_10 rfl hl (by decide) rfl (fun ls hl => ?_)
  refine z_jn hf (fun j => ∀  (h : HF) (H : Heap) (locs : List Loc) (ls : Array Slot), Hp g B s h H locs → lv_has ls 4 [] → j  h = some o → W p l e (rmn 4) s m args below meth c H locs 0 0 Q (F0 m 70 ls [])) ?_ (fun j70 hj70 hf => ?_)
  · intro  h H locs ls  hp hl hf
    refine z_iconst cx dX12_findCongruence_70 ?_
    rw [hQ]; exact z_zret cx hp dX12_findCongruence_71 hf
  refine z_jn hf (fun j => ∀  (h : HF) (H : Heap) (locs : List Loc) (ls : Array Slot), Hp g B s h H locs → lv_has ls 4 [] → j  h = some o → W p l e (rmn 4) s m args below meth c H locs 0 0 Q (F0 m 44 ls [])) ?_ (fun j44 hj44 hf => ?_)
  · intro  h H locs ls  hp hl hf
    refine z_iconst cx dX12_findCongruence_44 ?_
    rw [hQ]; exact z_zret cx hp dX12_findCongruence_45 hf
  exact wX12_findCongruence_11 F cx a0 ra0 a1 ra1 a2 ra2 j70 hj70 j44 hj44 F 1 h _ _ ls (by decide) hp (lv_sub hl [1, 2, 3, 0] rfl) hf
theorem dX12_told_0 : decode cX12_told 0 = .ok (.iconst 0, 1) := by decide +kernel
theorem dX12_told_1 : decode cX12_told 1 = .ok (.istore_n 3, 1) := by decide +kernel
theorem dX12_told_2 : decode cX12_told 2 = .ok (.iconst 0, 1) := by decide +kernel
theorem dX12_told_3 : decode cX12_told 3 = .ok (.istore 4, 2) := by decide +kernel
theorem dX12_told_5 : decode cX12_told 5 = .ok (.iload 4, 2) := by decide +kernel
theorem dX12_told_7 : decode cX12_told 7 = .ok (.iload_n 2, 1) := by decide +kernel
theorem dX12_told_8 : decode cX12_told 8 = .ok (.if_icmp .ge 19, 3) := by decide +kernel
theorem dX12_told_11 : decode cX12_told 11 = .ok (.bipush 7, 2) := by decide +kernel
theorem dX12_told_13 : decode cX12_told 13 = .ok (.iload_n 3, 1) := by decide +kernel
theorem dX12_told_14 : decode cX12_told 14 = .ok (.imul, 1) := by decide +kernel
theorem dX12_told_15 : decode cX12_told 15 = .ok (.aload_n 1, 1) := by decide +kernel
theorem dX12_told_16 : decode cX12_told 16 = .ok (.iload 4, 2) := by decide +kernel
theorem dX12_told_18 : decode cX12_told 18 = .ok (.iaload, 1) := by decide +kernel
theorem dX12_told_19 : decode cX12_told 19 = .ok (.iadd, 1) := by decide +kernel
theorem dX12_told_20 : decode cX12_told 20 = .ok (.istore_n 3, 1) := by decide +kernel
theorem dX12_told_21 : decode cX12_told 21 = .ok (.iinc 4 1, 3) := by decide +kernel
theorem dX12_told_24 : decode cX12_told 24 = .ok (.goto (-19), 3) := by decide +kernel
theorem dX12_told_27 : decode cX12_told 27 = .ok (.iload_n 3, 1) := by decide +kernel
theorem dX12_told_28 : decode cX12_told 28 = .ok (.ireturn, 1) := by decide +kernel
def LX12_told_5 (F : Nat) (u1 : Nat) (u2 : Int) (k27 : Int → HF → RO) : Nat → Int → Int → HF → RO
  | 0, _, _, _ => none
  | n + 1, v3, v4, h =>
    if v4 < u2 then (
      zrd h u1 v4 fun x1 =>
      zlet (wr ((wr (7 * v3)) + x1)) fun x2 =>
      zlet (wr (v4 + 1)) fun x3 =>
      LX12_told_5 F u1 u2 k27 n x2 x3 h
    ) else (
      k27 v3 h
    )
set_option maxHeartbeats 4000000 in
set_option maxRecDepth 100000 in
theorem wX12_told_5 {p : Program} {l : Launch} {e : Env} {s : State} {m : MethodId} {args : Array Value} {below : List Frame} {meth : Method} {c : Code} {Q : State → Prop} {g : zG} {B : Nat} {o : Int × HF} (F : Nat) (cx : Cx p s m args meth c cX12_told 5 RX12 (some .int) g B) (u1 : Nat) (ru1 : kt u1 = 0) (u2 : Int) (ru2 : rng u2) (k27 : Int → HF → RO) (hk27 : ∀ (x3 : Int) (h : HF) (H : Heap) (locs : List Loc) (ls : Array Slot), rng x3 → Hp g B s h H locs → lv_has ls 5 [(3, .int (ii x3))] → k27 x3 h = some o → W p l e (rmn 0) s m args below meth c H locs 0 0 Q (F0 m 27 ls [])) : ∀ (n : Nat) (v3 : Int) (v4 : Int) (h : HF) (H : Heap) (locs : List Loc) (ls : Array Slot), rng v3 → rng v4 → Hp g B s h H locs → lv_has ls 5 [(1, .ref (B + u1)), (2, .int (ii u2)), (3, .int (ii v3)), (4, .int (ii v4))] → LX12_told_5 F u1 u2 k27 n v3 v4 h = some o → W p l e (rmn 0) s m args below meth c H locs 0 0 Q (F0 m 5 ls []) := by
  intro n
  induction n with
  | zero =>
    intro v3 v4 h H locs ls rv3 rv4 hp hl hf
    cases hf
  | succ n ih =>
    intro v3 v4 h H locs ls rv3 rv4 hp hl hf
    rw [LX12_told_5] at hf
    refine lv_iload cx.1 cx.2.1 dX12_told_5 (lv_at hl 3 rfl) ?_
    refine lv_iload_n cx.1 cx.2.1 dX12_told_7 rfl (lv_at hl 1 rfl) ?_
    refine z_icmp_ge cx rv4 ru2 (tgt := 27) dX12_told_8 (by decide) hf (fun _ hf => ?_) (fun _ hf => ?_)
    · refine z_bipush cx (by decide) dX12_told_11 ?_
      refine lv_iload_n cx.1 cx.2.1 dX12_told_13 rfl (lv_at hl 2 rfl) ?_
      refine z_imul cx dX12_told_14 ?_
      refine lv_aload_n cx.1 cx.2.1 dX12_told_15 rfl (lv_at hl 0 rfl) ?_
      refine lv_iload cx.1 cx.2.1 dX12_told_16 (lv_at hl 3 rfl) ?_
      refine z_iald cx hp ru1 rv4 dX12_told_18 hf (fun x1 rx1 hf => ?_)
      refine z_iadd cx dX12_told_19 ?_
      refine z_let (rng_wr _) hf (fun x2 rx2 hf => ?_)
      refine lv_istore_n (lv' := [(3, .int (ii x2)), (1, .ref (B + u1)), (2, .int (ii u2)), (4, .int (ii v4))]) cx.1 cx.2.1 dX12_told_20 rfl hl (by decide) rfl (fun ls hl => ?_)
      refine z_iinc cx (fun x3 => [(4, .int (ii x3)), (3, .int (ii x2)), (1, .ref (B + u1)), (2, .int (ii u2))]) dX12_told_21 hl (k := 3) rfl (by decide) (fun _ => rfl) hf (fun x3 rx3 hf ls hl => ?_)
      refine lv_goto (tgt := 5) cx.1 cx.2.1 dX12_told_24 (by decide) ?_
      exact ih x2 x3 h _ _ ls rx2 rx3 hp (lv_sub hl [2, 3, 1, 0] rfl) hf
    · exact hk27 v3 h _ _ ls rv3 hp (lv_sub hl [2] rfl) hf
def fX12_told (F : Nat) (a0 : Nat) (a1 : Nat) (a2 : Int) (h : HF) : RO :=
  zjn (fun (x27_3 : Int) (h : HF) => (
    some (x27_3, h)
  )) fun j27 =>
  LX12_told_5 F a1 a2 j27 F 0 0 h
set_option maxHeartbeats 4000000 in
set_option maxRecDepth 100000 in
theorem mX12_told (F : Nat) (l : Launch) (g : zG) (B : Nat) (h : HF) (a0 : Nat) (a1 : Nat) (a2 : Int) (ra0 : kt a0 = 15) (ra1 : kt a1 = 0) (ra2 : rng a2) : CTi l g B yX12_told cX12_told 5 (some .int) 0 [.ref (B + a0), .ref (B + a1), .int (ii a2)] h (fX12_told F a0 a1 a2 h) := by
  refine z_enterI (by decide) rfl (Nat.le_of_ble_eq_true rfl) ?_
  intro p e s m args below meth c ls o Q cx hp hl hf hQ
  have hl : lv_has ls 5 [(0, .ref (B + a0)), (1, .ref (B + a1)), (2, .int (ii a2))] := hl
  unfold fX12_told at hf
  refine z_iconst cx dX12_told_0 ?_
  refine lv_istore_n (lv' := [(3, .int (ii 0)), (0, .ref (B + a0)), (1, .ref (B + a1)), (2, .int (ii a2))]) cx.1 cx.2.1 dX12_told_1 rfl hl (by decide) rfl (fun ls hl => ?_)
  refine z_iconst cx dX12_told_2 ?_
  refine lv_istore (lv' := [(4, .int (ii 0)), (3, .int (ii 0)), (0, .ref (B + a0)), (1, .ref (B + a1)), (2, .int (ii a2))]) cx.1 cx.2.1 dX12_told_3 hl (by decide) rfl (fun ls hl => ?_)
  refine z_jn hf (fun j => ∀ (x27_3 : Int) (h : HF) (H : Heap) (locs : List Loc) (ls : Array Slot), rng x27_3 → Hp g B s h H locs → lv_has ls 5 [(3, .int (ii x27_3))] → j x27_3 h = some o → W p l e (rmn 0) s m args below meth c H locs 0 0 Q (F0 m 27 ls [])) ?_ (fun j27 hj27 hf => ?_)
  · intro x27_3 h H locs ls rx27_3 hp hl hf
    refine lv_iload_n cx.1 cx.2.1 dX12_told_27 rfl (lv_at hl 0 rfl) ?_
    rw [hQ]; exact z_iret cx hp rx27_3 dX12_told_28 hf
  exact wX12_told_5 F cx a1 ra1 a2 ra2 j27 hj27 F 0 0 h _ _ ls (by decide) (by decide) hp (lv_sub hl [3, 4, 1, 0] rfl) hf
theorem dX12_congruence_0 : decode cX12_congruence 0 = .ok (.aload_n 0, 1) := by decide +kernel
theorem dX12_congruence_1 : decode cX12_congruence 1 = .ok (.iconst 0, 1) := by decide +kernel
theorem dX12_congruence_2 : decode cX12_congruence 2 = .ok (.putfield 115, 3) := by decide +kernel
theorem dX12_congruence_5 : decode cX12_congruence 5 = .ok (.aload_n 0, 1) := by decide +kernel
theorem dX12_congruence_6 : decode cX12_congruence 6 = .ok (.iload_n 1, 1) := by decide +kernel
theorem dX12_congruence_7 : decode cX12_congruence 7 = .ok (.invokevirtual 168, 3) := by decide +kernel
theorem dX12_congruence_10 : decode cX12_congruence 10 = .ok (.istore_n 3, 1) := by decide +kernel
theorem dX12_congruence_11 : decode cX12_congruence 11 = .ok (.iload_n 3, 1) := by decide +kernel
theorem dX12_congruence_12 : decode cX12_congruence 12 = .ok (.ifCond .eq 5, 3) := by decide +kernel
theorem dX12_congruence_15 : decode cX12_congruence 15 = .ok (.iload_n 3, 1) := by decide +kernel
theorem dX12_congruence_16 : decode cX12_congruence 16 = .ok (.ireturn, 1) := by decide +kernel
theorem dX12_congruence_17 : decode cX12_congruence 17 = .ok (.iload_n 2, 1) := by decide +kernel
theorem dX12_congruence_18 : decode cX12_congruence 18 = .ok (.iconst (-1), 1) := by decide +kernel
theorem dX12_congruence_19 : decode cX12_congruence 19 = .ok (.if_icmp .ge 6, 3) := by decide +kernel
theorem dX12_congruence_22 : decode cX12_congruence 22 = .ok (.bipush (-3), 2) := by decide +kernel
theorem dX12_congruence_24 : decode cX12_congruence 24 = .ok (.ireturn, 1) := by decide +kernel
theorem dX12_congruence_25 : decode cX12_congruence 25 = .ok (.aload_n 0, 1) := by decide +kernel
theorem dX12_congruence_26 : decode cX12_congruence 26 = .ok (.iload_n 1, 1) := by decide +kernel
theorem dX12_congruence_27 : decode cX12_congruence 27 = .ok (.iload_n 2, 1) := by decide +kernel
theorem dX12_congruence_28 : decode cX12_congruence 28 = .ok (.invokevirtual 326, 3) := by decide +kernel
theorem dX12_congruence_31 : decode cX12_congruence 31 = .ok (.istore 4, 2) := by decide +kernel
theorem dX12_congruence_33 : decode cX12_congruence 33 = .ok (.iload 4, 2) := by decide +kernel
theorem dX12_congruence_35 : decode cX12_congruence 35 = .ok (.ifCond .eq 20, 3) := by decide +kernel
theorem dX12_congruence_38 : decode cX12_congruence 38 = .ok (.aload_n 0, 1) := by decide +kernel
theorem dX12_congruence_39 : decode cX12_congruence 39 = .ok (.aload_n 0, 1) := by decide +kernel
theorem dX12_congruence_40 : decode cX12_congruence 40 = .ok (.getfield 85, 3) := by decide +kernel
theorem dX12_congruence_43 : decode cX12_congruence 43 = .ok (.aload_n 0, 1) := by decide +kernel
theorem dX12_congruence_44 : decode cX12_congruence 44 = .ok (.getfield 16, 3) := by decide +kernel
theorem dX12_congruence_47 : decode cX12_congruence 47 = .ok (.iload_n 1, 1) := by decide +kernel
theorem dX12_congruence_48 : decode cX12_congruence 48 = .ok (.iaload, 1) := by decide +kernel
theorem dX12_congruence_49 : decode cX12_congruence 49 = .ok (.invokevirtual 329, 3) := by decide +kernel
theorem dX12_congruence_52 : decode cX12_congruence 52 = .ok (.goto 17, 3) := by decide +kernel
theorem dX12_congruence_55 : decode cX12_congruence 55 = .ok (.iload_n 2, 1) := by decide +kernel
theorem dX12_congruence_56 : decode cX12_congruence 56 = .ok (.iconst (-1), 1) := by decide +kernel
theorem dX12_congruence_57 : decode cX12_congruence 57 = .ok (.if_icmp .ne 10, 3) := by decide +kernel
theorem dX12_congruence_60 : decode cX12_congruence 60 = .ok (.aload_n 0, 1) := by decide +kernel
theorem dX12_congruence_61 : decode cX12_congruence 61 = .ok (.getfield 311, 3) := by decide +kernel
theorem dX12_congruence_64 : decode cX12_congruence 64 = .ok (.goto 5, 3) := by decide +kernel
theorem dX12_congruence_67 : decode cX12_congruence 67 = .ok (.bipush (-3), 2) := by decide +kernel
theorem dX12_congruence_69 : decode cX12_congruence 69 = .ok (.ireturn, 1) := by decide +kernel
def fX12_congruence (F : Nat) (a0 : Nat) (a1 : Int) (a2 : Int) (h : HF) : RO :=
  zpf h a0 0 0 fun h =>
  zbd (fX12_refuse F a0 a1 h) fun r1 h =>
  if r1 = 0 then (
    if a2 < (-1) then (
      some ((-3), h)
    ) else (
      zbd (fX12_findCongruence F a0 a1 a2 h) fun r2 h =>
      zjn (fun (y69_0 : Int) (h : HF) => (
        some (y69_0, h)
      )) fun j69 =>
      if r2 = 0 then (
        if a2 = (-1) then (
          zgf h a0 43 fun x3 =>
          j69 x3 h
        ) else (
          j69 (-3) h
        )
      ) else (
        zrd h (a0 + 3) a1 fun x4 =>
        zbd (fX12_told F a0 (a0 + 26) x4 h) fun r5 h =>
        j69 r5 h
      )
    )
  ) else (
    some (r1, h)
  )
set_option maxHeartbeats 4000000 in
set_option maxRecDepth 100000 in
theorem mX12_congruence (F : Nat) (l : Launch) (g : zG) (B : Nat) (h : HF) (a0 : Nat) (a1 : Int) (a2 : Int) (ra0 : kt a0 = 15) (ra1 : rng a1) (ra2 : rng a2) : CTi l g B yX12_congruence cX12_congruence 5 (some .int) 5 [.ref (B + a0), .int (ii a1), .int (ii a2)] h (fX12_congruence F a0 a1 a2 h) := by
  refine z_enterI (by decide) rfl (Nat.le_of_ble_eq_true rfl) ?_
  intro p e s m args below meth c ls o Q cx hp hl hf hQ
  have hl : lv_has ls 5 [(0, .ref (B + a0)), (1, .int (ii a1)), (2, .int (ii a2))] := hl
  unfold fX12_congruence at hf
  refine lv_aload_n cx.1 cx.2.1 dX12_congruence_0 rfl (lv_at hl 0 rfl) ?_
  refine z_iconst cx dX12_congruence_1 ?_
  refine z_puti cx hp (T := TX12) tyX12 tyX12_ok nmX12 12 0 (by decide) rfl zin_12 (by decide) (by decide) ra0 rfl rfl rfl fl_X12_115 dX12_congruence_2 hf (fun h H locs hp hf => ?_)
  refine lv_aload_n cx.1 cx.2.1 dX12_congruence_5 rfl (lv_at hl 0 rfl) ?_
  refine lv_iload_n cx.1 cx.2.1 dX12_congruence_6 rfl (lv_at hl 1 rfl) ?_
  refine z_ci cx hp (fun o' hx => zrunV (n := 5) (As := [.int (ii a1)]) (rest := []) cx hp (mX12_refuse F l g B h a0 a1 ra0 ra1 o' hx) 12 ra0 (by decide) rfl vw_X12_refuse ml_X12_168 (by decide) rfl hl.1 rfl (Nat.le_of_ble_eq_true rfl) dX12_congruence_7) hf (fun r1 h H locs rr1 hp hf => ?_)
  refine lv_istore_n (lv' := [(3, .int (ii r1)), (0, .ref (B + a0)), (1, .int (ii a1)), (2, .int (ii a2))]) cx.1 cx.2.1 dX12_congruence_10 rfl hl (by decide) rfl (fun ls hl => ?_)
  refine lv_iload_n cx.1 cx.2.1 dX12_congruence_11 rfl (lv_at hl 0 rfl) ?_
  refine z_if_eq cx rr1 (tgt := 17) dX12_congruence_12 (by decide) hf (fun _ hf => ?_) (fun _ hf => ?_)
  · refine lv_iload_n cx.1 cx.2.1 dX12_congruence_17 rfl (lv_at hl 3 rfl) ?_
    refine z_iconst cx dX12_congruence_18 ?_
    refine z_icmp_ge cx ra2 (by decide) (tgt := 25) dX12_congruence_19 (by decide) hf (fun _ hf => ?_) (fun _ hf => ?_)
    · refine z_bipush cx (by decide) dX12_congruence_22 ?_
      rw [hQ]; exact z_iret cx hp (by decide) dX12_congruence_24 hf
    · refine lv_aload_n cx.1 cx.2.1 dX12_congruence_25 rfl (lv_at hl 1 rfl) ?_
      refine lv_iload_n cx.1 cx.2.1 dX12_congruence_26 rfl (lv_at hl 2 rfl) ?_
      refine lv_iload_n cx.1 cx.2.1 dX12_congruence_27 rfl (lv_at hl 3 rfl) ?_
      refine z_ci cx hp (fun o' hx => zrunV (n := 5) (As := [.int (ii a1), .int (ii a2)]) (rest := []) cx hp (mX12_findCongruence F l g B h a0 a1 a2 ra0 ra1 ra2 o' hx) 12 ra0 (by decide) rfl vw_X12_findCongruence ml_X12_326 (by decide) rfl hl.1 rfl (Nat.le_of_ble_eq_true rfl) dX12_congruence_28) hf (fun r2 h H locs rr2 hp hf => ?_)
      refine lv_istore (lv' := [(4, .int (ii r2)), (3, .int (ii r1)), (0, .ref (B + a0)), (1, .int (ii a1)), (2, .int (ii a2))]) cx.1 cx.2.1 dX12_congruence_31 hl (by decide) rfl (fun ls hl => ?_)
      refine lv_iload cx.1 cx.2.1 dX12_congruence_33 (lv_at hl 0 rfl) ?_
      refine z_jn hf (fun j => ∀ (y69_0 : Int) (h : HF) (H : Heap) (locs : List Loc) (ls : Array Slot), rng y69_0 → Hp g B s h H locs → lv_has ls 5 [] → j y69_0 h = some o → W p l e (rmn 5) s m args below meth c H locs 0 0 Q (F0 m 69 ls [.int (ii y69_0)])) ?_ (fun j69 hj69 hf => ?_)
      · intro y69_0 h H locs ls ry69_0 hp hl hf
        rw [hQ]; exact z_iret cx hp ry69_0 dX12_congruence_69 hf
      refine z_if_eq cx rr2 (tgt := 55) dX12_congruence_35 (by decide) hf (fun _ hf => ?_) (fun _ hf => ?_)
      · refine lv_iload_n cx.1 cx.2.1 dX12_congruence_55 rfl (lv_at hl 4 rfl) ?_
        refine z_iconst cx dX12_congruence_56 ?_
        refine z_icmp_ne cx ra2 (by decide) (tgt := 67) dX12_congruence_57 (by decide) hf (fun _ hf => ?_) (fun _ hf => ?_)
        · refine lv_aload_n cx.1 cx.2.1 dX12_congruence_60 rfl (lv_at hl 2 rfl) ?_
          refine z_geti cx hp (T := TX12) 12 43 rfl zin_12 (by decide) (by decide) ra0 rfl fl_X12_311 dX12_congruence_61 hf (fun x3 rx3 hf => ?_)
          refine lv_goto (tgt := 69) cx.1 cx.2.1 dX12_congruence_64 (by decide) ?_
          exact hj69 x3 h _ _ ls rx3 hp (lv_sub hl [] rfl) hf
        · refine z_bipush cx (by decide) dX12_congruence_67 ?_
          exact hj69 (-3) h _ _ ls (by decide) hp (lv_sub hl [] rfl) hf
      · refine lv_aload_n cx.1 cx.2.1 dX12_congruence_38 rfl (lv_at hl 2 rfl) ?_
        refine lv_aload_n cx.1 cx.2.1 dX12_congruence_39 rfl (lv_at hl 2 rfl) ?_
        refine z_gets cx hp (T := TX12) 12 42 (a0 + 26) rfl zin_12 (by decide) (by decide) ra0 rfl fl_X12_85 dX12_congruence_40 ?_
        refine lv_aload_n cx.1 cx.2.1 dX12_congruence_43 rfl (lv_at hl 2 rfl) ?_
        refine z_gets cx hp (T := TX12) 12 6 (a0 + 3) rfl zin_12 (by decide) (by decide) ra0 rfl fl_X12_16 dX12_congruence_44 ?_
        refine lv_iload_n cx.1 cx.2.1 dX12_congruence_47 rfl (lv_at hl 3 rfl) ?_
        refine z_iald cx hp (zs_12_6 a0 (kt_lt ra0 (by decide)) ra0) ra1 dX12_congruence_48 hf (fun x4 rx4 hf => ?_)
        refine z_ci cx hp (fun o' hx => zrunV (n := 5) (As := [.ref (B + (a0 + 26)), .int (ii x4)]) (rest := []) cx hp (mX12_told F l g B h a0 (a0 + 26) x4 ra0 (zs_12_42 a0 (kt_lt ra0 (by decide)) ra0) rx4 o' hx) 12 ra0 (by decide) rfl vw_X12_told ml_X12_329 (by decide) rfl hl.1 rfl (Nat.le_of_ble_eq_true rfl) dX12_congruence_49) hf (fun r5 h H locs rr5 hp hf => ?_)
        refine lv_goto (tgt := 69) cx.1 cx.2.1 dX12_congruence_52 (by decide) ?_
        exact hj69 r5 h _ _ ls rr5 hp (lv_sub hl [] rfl) hf
  · refine lv_iload_n cx.1 cx.2.1 dX12_congruence_15 rfl (lv_at hl 0 rfl) ?_
    rw [hQ]; exact z_iret cx hp rr1 dX12_congruence_16 hf
theorem dX12_classes_0 : decode cX12_classes 0 = .ok (.iconst 0, 1) := by decide +kernel
theorem dX12_classes_1 : decode cX12_classes 1 = .ok (.istore_n 2, 1) := by decide +kernel
theorem dX12_classes_2 : decode cX12_classes 2 = .ok (.iconst 0, 1) := by decide +kernel
theorem dX12_classes_3 : decode cX12_classes 3 = .ok (.istore_n 3, 1) := by decide +kernel
theorem dX12_classes_4 : decode cX12_classes 4 = .ok (.iload_n 3, 1) := by decide +kernel
theorem dX12_classes_5 : decode cX12_classes 5 = .ok (.iload_n 1, 1) := by decide +kernel
theorem dX12_classes_6 : decode cX12_classes 6 = .ok (.if_icmp .ge 27, 3) := by decide +kernel
theorem dX12_classes_9 : decode cX12_classes 9 = .ok (.iload_n 2, 1) := by decide +kernel
theorem dX12_classes_10 : decode cX12_classes 10 = .ok (.aload_n 0, 1) := by decide +kernel
theorem dX12_classes_11 : decode cX12_classes 11 = .ok (.getfield 85, 3) := by decide +kernel
theorem dX12_classes_14 : decode cX12_classes 14 = .ok (.iload_n 3, 1) := by decide +kernel
theorem dX12_classes_15 : decode cX12_classes 15 = .ok (.iaload, 1) := by decide +kernel
theorem dX12_classes_16 : decode cX12_classes 16 = .ok (.iload_n 3, 1) := by decide +kernel
theorem dX12_classes_17 : decode cX12_classes 17 = .ok (.if_icmp .ne 7, 3) := by decide +kernel
theorem dX12_classes_20 : decode cX12_classes 20 = .ok (.iconst 1, 1) := by decide +kernel
theorem dX12_classes_21 : decode cX12_classes 21 = .ok (.goto 4, 3) := by decide +kernel
theorem dX12_classes_24 : decode cX12_classes 24 = .ok (.iconst 0, 1) := by decide +kernel
theorem dX12_classes_25 : decode cX12_classes 25 = .ok (.iadd, 1) := by decide +kernel
theorem dX12_classes_26 : decode cX12_classes 26 = .ok (.istore_n 2, 1) := by decide +kernel
theorem dX12_classes_27 : decode cX12_classes 27 = .ok (.iinc 3 1, 3) := by decide +kernel
theorem dX12_classes_30 : decode cX12_classes 30 = .ok (.goto (-26), 3) := by decide +kernel
theorem dX12_classes_33 : decode cX12_classes 33 = .ok (.iload_n 2, 1) := by decide +kernel
theorem dX12_classes_34 : decode cX12_classes 34 = .ok (.ireturn, 1) := by decide +kernel
def LX12_classes_4 (F : Nat) (u0 : Nat) (u1 : Int) (k33 : Int → HF → RO) : Nat → Int → Int → HF → RO
  | 0, _, _, _ => none
  | n + 1, v2, v3, h =>
    if v3 < u1 then (
      zrd h (u0 + 26) v3 fun x1 =>
      zjn (fun (x25_3 : Int) (y25_0 : Int) (y25_1 : Int) (h : HF) => (
        zlet (wr (y25_1 + y25_0)) fun x2 =>
        zlet (wr (x25_3 + 1)) fun x3 =>
        LX12_classes_4 F u0 u1 k33 n x2 x3 h
      )) fun j25 =>
      if x1 = v3 then (
        j25 v3 1 v2 h
      ) else (
        j25 v3 0 v2 h
      )
    ) else (
      k33 v2 h
    )
set_option maxHeartbeats 4000000 in
set_option maxRecDepth 100000 in
theorem wX12_classes_4 {p : Program} {l : Launch} {e : Env} {s : State} {m : MethodId} {args : Array Value} {below : List Frame} {meth : Method} {c : Code} {Q : State → Prop} {g : zG} {B : Nat} {o : Int × HF} (F : Nat) (cx : Cx p s m args meth c cX12_classes 4 RX12 (some .int) g B) (u0 : Nat) (ru0 : kt u0 = 15) (u1 : Int) (ru1 : rng u1) (k33 : Int → HF → RO) (hk33 : ∀ (x2 : Int) (h : HF) (H : Heap) (locs : List Loc) (ls : Array Slot), rng x2 → Hp g B s h H locs → lv_has ls 4 [(2, .int (ii x2))] → k33 x2 h = some o → W p l e (rmn 0) s m args below meth c H locs 0 0 Q (F0 m 33 ls [])) : ∀ (n : Nat) (v2 : Int) (v3 : Int) (h : HF) (H : Heap) (locs : List Loc) (ls : Array Slot), rng v2 → rng v3 → Hp g B s h H locs → lv_has ls 4 [(0, .ref (B + u0)), (1, .int (ii u1)), (2, .int (ii v2)), (3, .int (ii v3))] → LX12_classes_4 F u0 u1 k33 n v2 v3 h = some o → W p l e (rmn 0) s m args below meth c H locs 0 0 Q (F0 m 4 ls []) := by
  intro n
  induction n with
  | zero =>
    intro v2 v3 h H locs ls rv2 rv3 hp hl hf
    cases hf
  | succ n ih =>
    intro v2 v3 h H locs ls rv2 rv3 hp hl hf
    rw [LX12_classes_4] at hf
    refine lv_iload_n cx.1 cx.2.1 dX12_classes_4 rfl (lv_at hl 3 rfl) ?_
    refine lv_iload_n cx.1 cx.2.1 dX12_classes_5 rfl (lv_at hl 1 rfl) ?_
    refine z_icmp_ge cx rv3 ru1 (tgt := 33) dX12_classes_6 (by decide) hf (fun _ hf => ?_) (fun _ hf => ?_)
    · refine lv_iload_n cx.1 cx.2.1 dX12_classes_9 rfl (lv_at hl 2 rfl) ?_
      refine lv_aload_n cx.1 cx.2.1 dX12_classes_10 rfl (lv_at hl 0 rfl) ?_
      refine z_gets cx hp (T := TX12) 12 42 (u0 + 26) rfl zin_12 (by decide) (by decide) ru0 rfl fl_X12_85 dX12_classes_11 ?_
      refine lv_iload_n cx.1 cx.2.1 dX12_classes_14 rfl (lv_at hl 3 rfl) ?_
      refine z_iald cx hp (zs_12_42 u0 (kt_lt ru0 (by decide)) ru0) rv3 dX12_classes_15 hf (fun x1 rx1 hf => ?_)
      refine lv_iload_n cx.1 cx.2.1 dX12_classes_16 rfl (lv_at hl 3 rfl) ?_
      refine z_jn hf (fun j => ∀ (x25_3 : Int) (y25_0 : Int) (y25_1 : Int) (h : HF) (H : Heap) (locs : List Loc) (ls : Array Slot), rng x25_3 → rng y25_0 → rng y25_1 → Hp g B s h H locs → lv_has ls 4 [(0, .ref (B + u0)), (1, .int (ii u1)), (3, .int (ii x25_3))] → j x25_3 y25_0 y25_1 h = some o → W p l e (rmn 0) s m args below meth c H locs 0 0 Q (F0 m 25 ls [.int (ii y25_0), .int (ii y25_1)])) ?_ (fun j25 hj25 hf => ?_)
      · intro x25_3 y25_0 y25_1 h H locs ls rx25_3 ry25_0 ry25_1 hp hl hf
        refine z_iadd cx dX12_classes_25 ?_
        refine z_let (rng_wr _) hf (fun x2 rx2 hf => ?_)
        refine lv_istore_n (lv' := [(2, .int (ii x2)), (0, .ref (B + u0)), (1, .int (ii u1)), (3, .int (ii x25_3))]) cx.1 cx.2.1 dX12_classes_26 rfl hl (by decide) rfl (fun ls hl => ?_)
        refine z_iinc cx (fun x3 => [(3, .int (ii x3)), (2, .int (ii x2)), (0, .ref (B + u0)), (1, .int (ii u1))]) dX12_classes_27 hl (k := 3) rfl (by decide) (fun _ => rfl) hf (fun x3 rx3 hf ls hl => ?_)
        refine lv_goto (tgt := 4) cx.1 cx.2.1 dX12_classes_30 (by decide) ?_
        exact ih x2 x3 h _ _ ls rx2 rx3 hp (lv_sub hl [2, 3, 1, 0] rfl) hf
      refine z_icmp_ne cx rx1 rv3 (tgt := 24) dX12_classes_17 (by decide) hf (fun _ hf => ?_) (fun _ hf => ?_)
      · refine z_iconst cx dX12_classes_20 ?_
        refine lv_goto (tgt := 25) cx.1 cx.2.1 dX12_classes_21 (by decide) ?_
        exact hj25 v3 1 v2 h _ _ ls rv3 (by decide) rv2 hp (lv_sub hl [0, 1, 3] rfl) hf
      · refine z_iconst cx dX12_classes_24 ?_
        exact hj25 v3 0 v2 h _ _ ls rv3 (by decide) rv2 hp (lv_sub hl [0, 1, 3] rfl) hf
    · exact hk33 v2 h _ _ ls rv2 hp (lv_sub hl [2] rfl) hf
def fX12_classes (F : Nat) (a0 : Nat) (a1 : Int) (h : HF) : RO :=
  zjn (fun (x33_2 : Int) (h : HF) => (
    some (x33_2, h)
  )) fun j33 =>
  LX12_classes_4 F a0 a1 j33 F 0 0 h
set_option maxHeartbeats 4000000 in
set_option maxRecDepth 100000 in
theorem mX12_classes (F : Nat) (l : Launch) (g : zG) (B : Nat) (h : HF) (a0 : Nat) (a1 : Int) (ra0 : kt a0 = 15) (ra1 : rng a1) : CTi l g B yX12_classes cX12_classes 4 (some .int) 0 [.ref (B + a0), .int (ii a1)] h (fX12_classes F a0 a1 h) := by
  refine z_enterI (by decide) rfl (Nat.le_of_ble_eq_true rfl) ?_
  intro p e s m args below meth c ls o Q cx hp hl hf hQ
  have hl : lv_has ls 4 [(0, .ref (B + a0)), (1, .int (ii a1))] := hl
  unfold fX12_classes at hf
  refine z_iconst cx dX12_classes_0 ?_
  refine lv_istore_n (lv' := [(2, .int (ii 0)), (0, .ref (B + a0)), (1, .int (ii a1))]) cx.1 cx.2.1 dX12_classes_1 rfl hl (by decide) rfl (fun ls hl => ?_)
  refine z_iconst cx dX12_classes_2 ?_
  refine lv_istore_n (lv' := [(3, .int (ii 0)), (2, .int (ii 0)), (0, .ref (B + a0)), (1, .int (ii a1))]) cx.1 cx.2.1 dX12_classes_3 rfl hl (by decide) rfl (fun ls hl => ?_)
  refine z_jn hf (fun j => ∀ (x33_2 : Int) (h : HF) (H : Heap) (locs : List Loc) (ls : Array Slot), rng x33_2 → Hp g B s h H locs → lv_has ls 4 [(2, .int (ii x33_2))] → j x33_2 h = some o → W p l e (rmn 0) s m args below meth c H locs 0 0 Q (F0 m 33 ls [])) ?_ (fun j33 hj33 hf => ?_)
  · intro x33_2 h H locs ls rx33_2 hp hl hf
    refine lv_iload_n cx.1 cx.2.1 dX12_classes_33 rfl (lv_at hl 0 rfl) ?_
    rw [hQ]; exact z_iret cx hp rx33_2 dX12_classes_34 hf
  exact wX12_classes_4 F cx a0 ra0 a1 ra1 j33 hj33 F 0 0 h _ _ ls (by decide) (by decide) hp (lv_sub hl [2, 3, 1, 0] rfl) hf
theorem dX12_link_0 : decode cX12_link 0 = .ok (.aload_n 0, 1) := by decide +kernel
theorem dX12_link_1 : decode cX12_link 1 = .ok (.iconst 0, 1) := by decide +kernel
theorem dX12_link_2 : decode cX12_link 2 = .ok (.putfield 115, 3) := by decide +kernel
theorem dX12_link_5 : decode cX12_link 5 = .ok (.aload_n 0, 1) := by decide +kernel
theorem dX12_link_6 : decode cX12_link 6 = .ok (.iload_n 1, 1) := by decide +kernel
theorem dX12_link_7 : decode cX12_link 7 = .ok (.invokevirtual 168, 3) := by decide +kernel
theorem dX12_link_10 : decode cX12_link 10 = .ok (.istore 4, 2) := by decide +kernel
theorem dX12_link_12 : decode cX12_link 12 = .ok (.iload 4, 2) := by decide +kernel
theorem dX12_link_14 : decode cX12_link 14 = .ok (.ifCond .eq 6, 3) := by decide +kernel
theorem dX12_link_17 : decode cX12_link 17 = .ok (.iload 4, 2) := by decide +kernel
theorem dX12_link_19 : decode cX12_link 19 = .ok (.ireturn, 1) := by decide +kernel
theorem dX12_link_20 : decode cX12_link 20 = .ok (.aload_n 0, 1) := by decide +kernel
theorem dX12_link_21 : decode cX12_link 21 = .ok (.iload_n 1, 1) := by decide +kernel
theorem dX12_link_22 : decode cX12_link 22 = .ok (.iload_n 2, 1) := by decide +kernel
theorem dX12_link_23 : decode cX12_link 23 = .ok (.invokevirtual 164, 3) := by decide +kernel
theorem dX12_link_26 : decode cX12_link 26 = .ok (.ifCond .eq 12, 3) := by decide +kernel
theorem dX12_link_29 : decode cX12_link 29 = .ok (.aload_n 0, 1) := by decide +kernel
theorem dX12_link_30 : decode cX12_link 30 = .ok (.iload_n 1, 1) := by decide +kernel
theorem dX12_link_31 : decode cX12_link 31 = .ok (.iload_n 3, 1) := by decide +kernel
theorem dX12_link_32 : decode cX12_link 32 = .ok (.invokevirtual 164, 3) := by decide +kernel
theorem dX12_link_35 : decode cX12_link 35 = .ok (.ifCond .ne 6, 3) := by decide +kernel
theorem dX12_link_41 : decode cX12_link 41 = .ok (.aload_n 0, 1) := by decide +kernel
theorem dX12_link_42 : decode cX12_link 42 = .ok (.getfield 16, 3) := by decide +kernel
theorem dX12_link_45 : decode cX12_link 45 = .ok (.iload_n 1, 1) := by decide +kernel
theorem dX12_link_46 : decode cX12_link 46 = .ok (.iaload, 1) := by decide +kernel
theorem dX12_link_47 : decode cX12_link 47 = .ok (.istore 5, 2) := by decide +kernel
theorem dX12_link_49 : decode cX12_link 49 = .ok (.iconst 0, 1) := by decide +kernel
theorem dX12_link_50 : decode cX12_link 50 = .ok (.istore 6, 2) := by decide +kernel
theorem dX12_link_52 : decode cX12_link 52 = .ok (.iconst (-1), 1) := by decide +kernel
theorem dX12_link_53 : decode cX12_link 53 = .ok (.istore 7, 2) := by decide +kernel
theorem dX12_link_55 : decode cX12_link 55 = .ok (.iconst 0, 1) := by decide +kernel
theorem dX12_link_56 : decode cX12_link 56 = .ok (.istore 8, 2) := by decide +kernel
theorem dX12_link_58 : decode cX12_link 58 = .ok (.aload_n 0, 1) := by decide +kernel
theorem dX12_link_59 : decode cX12_link 59 = .ok (.invokevirtual 314, 3) := by decide +kernel
theorem dX12_link_62 : decode cX12_link 62 = .ok (.iconst 1, 1) := by decide +kernel
theorem dX12_link_63 : decode cX12_link 63 = .ok (.istore 9, 2) := by decide +kernel
theorem dX12_link_65 : decode cX12_link 65 = .ok (.iload 9, 2) := by decide +kernel
theorem dX12_link_67 : decode cX12_link 67 = .ok (.ifCond .eq 72, 3) := by decide +kernel
theorem dX12_link_70 : decode cX12_link 70 = .ok (.aload_n 0, 1) := by decide +kernel
theorem dX12_link_71 : decode cX12_link 71 = .ok (.iload 5, 2) := by decide +kernel
theorem dX12_link_73 : decode cX12_link 73 = .ok (.invokevirtual 317, 3) := by decide +kernel
theorem dX12_link_76 : decode cX12_link 76 = .ok (.ifCond .eq 52, 3) := by decide +kernel
theorem dX12_link_79 : decode cX12_link 79 = .ok (.aload_n 0, 1) := by decide +kernel
theorem dX12_link_80 : decode cX12_link 80 = .ok (.iload_n 1, 1) := by decide +kernel
theorem dX12_link_81 : decode cX12_link 81 = .ok (.invokevirtual 320, 3) := by decide +kernel
theorem dX12_link_84 : decode cX12_link 84 = .ok (.ifCond .eq 44, 3) := by decide +kernel
theorem dX12_link_87 : decode cX12_link 87 = .ok (.aload_n 0, 1) := by decide +kernel
theorem dX12_link_88 : decode cX12_link 88 = .ok (.getfield 85, 3) := by decide +kernel
theorem dX12_link_91 : decode cX12_link 91 = .ok (.iload_n 2, 1) := by decide +kernel
theorem dX12_link_92 : decode cX12_link 92 = .ok (.iaload, 1) := by decide +kernel
theorem dX12_link_93 : decode cX12_link 93 = .ok (.aload_n 0, 1) := by decide +kernel
theorem dX12_link_94 : decode cX12_link 94 = .ok (.getfield 85, 3) := by decide +kernel
theorem dX12_link_97 : decode cX12_link 97 = .ok (.iload_n 3, 1) := by decide +kernel
theorem dX12_link_98 : decode cX12_link 98 = .ok (.iaload, 1) := by decide +kernel
theorem dX12_link_99 : decode cX12_link 99 = .ok (.if_icmp .ne 26, 3) := by decide +kernel
theorem dX12_link_102 : decode cX12_link 102 = .ok (.aload_n 0, 1) := by decide +kernel
theorem dX12_link_103 : decode cX12_link 103 = .ok (.iload 5, 2) := by decide +kernel
theorem dX12_link_105 : decode cX12_link 105 = .ok (.invokevirtual 333, 3) := by decide +kernel
theorem dX12_link_108 : decode cX12_link 108 = .ok (.iload 8, 2) := by decide +kernel
theorem dX12_link_110 : decode cX12_link 110 = .ok (.if_icmp .le 15, 3) := by decide +kernel
theorem dX12_link_113 : decode cX12_link 113 = .ok (.aload_n 0, 1) := by decide +kernel
theorem dX12_link_114 : decode cX12_link 114 = .ok (.iload 5, 2) := by decide +kernel
theorem dX12_link_116 : decode cX12_link 116 = .ok (.invokevirtual 333, 3) := by decide +kernel
theorem dX12_link_119 : decode cX12_link 119 = .ok (.istore 8, 2) := by decide +kernel
theorem dX12_link_121 : decode cX12_link 121 = .ok (.iload 6, 2) := by decide +kernel
theorem dX12_link_123 : decode cX12_link 123 = .ok (.istore 7, 2) := by decide +kernel
theorem dX12_link_125 : decode cX12_link 125 = .ok (.iinc 6 1, 3) := by decide +kernel
theorem dX12_link_128 : decode cX12_link 128 = .ok (.aload_n 0, 1) := by decide +kernel
theorem dX12_link_129 : decode cX12_link 129 = .ok (.iload 5, 2) := by decide +kernel
theorem dX12_link_131 : decode cX12_link 131 = .ok (.invokevirtual 323, 3) := by decide +kernel
theorem dX12_link_134 : decode cX12_link 134 = .ok (.istore 9, 2) := by decide +kernel
theorem dX12_link_136 : decode cX12_link 136 = .ok (.goto (-71), 3) := by decide +kernel
theorem dX12_link_139 : decode cX12_link 139 = .ok (.iload 7, 2) := by decide +kernel
theorem dX12_link_141 : decode cX12_link 141 = .ok (.ireturn, 1) := by decide +kernel
theorem dX12_link_38 : decode cX12_link 38 = .ok (.bipush (-3), 2) := by decide +kernel
theorem dX12_link_40 : decode cX12_link 40 = .ok (.ireturn, 1) := by decide +kernel
def LX12_link_65 (F : Nat) (u0 : Nat) (u1 : Int) (u2 : Int) (u3 : Int) (u5 : Int) (k139 : Int → HF → RO) : Nat → Int → Int → Int → Int → HF → RO
  | 0, _, _, _, _, _ => none
  | n + 1, v6, v7, v8, v9, h =>
    if v9 = 0 then (
      k139 v7 h
    ) else (
      zbd (fX12_isLine F u0 u5 h) fun r6 h =>
      zjn (fun (x128_6 : Int) (x128_7 : Int) (x128_8 : Int) (h : HF) => (
        zbd (fX12_nextLine F u0 u5 h) fun r7 h =>
        LX12_link_65 F u0 u1 u2 u3 u5 k139 n x128_6 x128_7 x128_8 r7 h
      )) fun j128 =>
      if r6 = 0 then (
        j128 v6 v7 v8 h
      ) else (
        zbd (fX12_agrees F u0 u1 h) fun r8 h =>
        if r8 = 0 then (
          j128 v6 v7 v8 h
        ) else (
          zrd h (u0 + 26) u2 fun x9 =>
          zrd h (u0 + 26) u3 fun x10 =>
          zjn (fun (x125_6 : Int) (x125_7 : Int) (x125_8 : Int) (h : HF) => (
            zlet (wr (x125_6 + 1)) fun x11 =>
            j128 x11 x125_7 x125_8 h
          )) fun j125 =>
          if x9 = x10 then (
            zbd (fX12_classes F u0 u5 h) fun r12 h =>
            if v8 < r12 then (
              zbd (fX12_classes F u0 u5 h) fun r13 h =>
              j125 v6 v6 r13 h
            ) else (
              j125 v6 v7 v8 h
            )
          ) else (
            j125 v6 v7 v8 h
          )
        )
      )
    )
set_option maxHeartbeats 4000000 in
set_option maxRecDepth 100000 in
theorem wX12_link_65 {p : Program} {l : Launch} {e : Env} {s : State} {m : MethodId} {args : Array Value} {below : List Frame} {meth : Method} {c : Code} {Q : State → Prop} {g : zG} {B : Nat} {o : Int × HF} (F : Nat) (cx : Cx p s m args meth c cX12_link 10 RX12 (some .int) g B) (u0 : Nat) (ru0 : kt u0 = 15) (u1 : Int) (ru1 : rng u1) (u2 : Int) (ru2 : rng u2) (u3 : Int) (ru3 : rng u3) (u5 : Int) (ru5 : rng u5) (k139 : Int → HF → RO) (hk139 : ∀ (x7 : Int) (h : HF) (H : Heap) (locs : List Loc) (ls : Array Slot), rng x7 → Hp g B s h H locs → lv_has ls 10 [(7, .int (ii x7))] → k139 x7 h = some o → W p l e (rmn 4) s m args below meth c H locs 0 0 Q (F0 m 139 ls [])) : ∀ (n : Nat) (v6 : Int) (v7 : Int) (v8 : Int) (v9 : Int) (h : HF) (H : Heap) (locs : List Loc) (ls : Array Slot), rng v6 → rng v7 → rng v8 → rng v9 → Hp g B s h H locs → lv_has ls 10 [(0, .ref (B + u0)), (1, .int (ii u1)), (2, .int (ii u2)), (3, .int (ii u3)), (5, .int (ii u5)), (6, .int (ii v6)), (7, .int (ii v7)), (8, .int (ii v8)), (9, .int (ii v9))] → LX12_link_65 F u0 u1 u2 u3 u5 k139 n v6 v7 v8 v9 h = some o → W p l e (rmn 4) s m args below meth c H locs 0 0 Q (F0 m 65 ls []) := by
  intro n
  induction n with
  | zero =>
    intro v6 v7 v8 v9 h H locs ls rv6 rv7 rv8 rv9 hp hl hf
    cases hf
  | succ n ih =>
    intro v6 v7 v8 v9 h H locs ls rv6 rv7 rv8 rv9 hp hl hf
    rw [LX12_link_65] at hf
    refine lv_iload cx.1 cx.2.1 dX12_link_65 (lv_at hl 8 rfl) ?_
    refine z_if_eq cx rv9 (tgt := 139) dX12_link_67 (by decide) hf (fun _ hf => ?_) (fun _ hf => ?_)
    · exact hk139 v7 h _ _ ls rv7 hp (lv_sub hl [6] rfl) hf
    · refine lv_aload_n cx.1 cx.2.1 dX12_link_70 rfl (lv_at hl 0 rfl) ?_
      refine lv_iload cx.1 cx.2.1 dX12_link_71 (lv_at hl 4 rfl) ?_
      refine z_ci cx hp (fun o' hx => zrunV (n := 4) (As := [.int (ii u5)]) (rest := []) cx hp (mX12_isLine F l g B h u0 u5 ru0 ru5 o' hx) 12 ru0 (by decide) rfl vw_X12_isLine ml_X12_317 (by decide) rfl hl.1 rfl (Nat.le_of_ble_eq_true rfl) dX12_link_73) hf (fun r6 h H locs rr6 hp hf => ?_)
      refine z_jn hf (fun j => ∀ (x128_6 : Int) (x128_7 : Int) (x128_8 : Int) (h : HF) (H : Heap) (locs : List Loc) (ls : Array Slot), rng x128_6 → rng x128_7 → rng x128_8 → Hp g B s h H locs → lv_has ls 10 [(0, .ref (B + u0)), (1, .int (ii u1)), (2, .int (ii u2)), (3, .int (ii u3)), (5, .int (ii u5)), (6, .int (ii x128_6)), (7, .int (ii x128_7)), (8, .int (ii x128_8))] → j x128_6 x128_7 x128_8 h = some o → W p l e (rmn 4) s m args below meth c H locs 0 0 Q (F0 m 128 ls [])) ?_ (fun j128 hj128 hf => ?_)
      · intro x128_6 x128_7 x128_8 h H locs ls rx128_6 rx128_7 rx128_8 hp hl hf
        refine lv_aload_n cx.1 cx.2.1 dX12_link_128 rfl (lv_at hl 0 rfl) ?_
        refine lv_iload cx.1 cx.2.1 dX12_link_129 (lv_at hl 4 rfl) ?_
        refine z_ci cx hp (fun o' hx => zrunV (n := 4) (As := [.int (ii u5)]) (rest := []) cx hp (mX12_nextLine F l g B h u0 u5 ru0 ru5 o' hx) 12 ru0 (by decide) rfl vw_X12_nextLine ml_X12_323 (by decide) rfl hl.1 rfl (Nat.le_of_ble_eq_true rfl) dX12_link_131) hf (fun r7 h H locs rr7 hp hf => ?_)
        refine lv_istore (lv' := [(9, .int (ii r7)), (0, .ref (B + u0)), (1, .int (ii u1)), (2, .int (ii u2)), (3, .int (ii u3)), (5, .int (ii u5)), (6, .int (ii x128_6)), (7, .int (ii x128_7)), (8, .int (ii x128_8))]) cx.1 cx.2.1 dX12_link_134 hl (by decide) rfl (fun ls hl => ?_)
        refine lv_goto (tgt := 65) cx.1 cx.2.1 dX12_link_136 (by decide) ?_
        exact ih x128_6 x128_7 x128_8 r7 h _ _ ls rx128_6 rx128_7 rx128_8 rr7 hp (lv_sub hl [1, 2, 3, 4, 5, 6, 7, 8, 0] rfl) hf
      refine z_if_eq cx rr6 (tgt := 128) dX12_link_76 (by decide) hf (fun _ hf => ?_) (fun _ hf => ?_)
      · exact hj128 v6 v7 v8 h _ _ ls rv6 rv7 rv8 hp (lv_sub hl [0, 1, 2, 3, 4, 5, 6, 7] rfl) hf
      · refine lv_aload_n cx.1 cx.2.1 dX12_link_79 rfl (lv_at hl 0 rfl) ?_
        refine lv_iload_n cx.1 cx.2.1 dX12_link_80 rfl (lv_at hl 1 rfl) ?_
        refine z_ci cx hp (fun o' hx => zrunV (n := 4) (As := [.int (ii u1)]) (rest := []) cx hp (mX12_agrees F l g B h u0 u1 ru0 ru1 o' hx) 12 ru0 (by decide) rfl vw_X12_agrees ml_X12_320 (by decide) rfl hl.1 rfl (Nat.le_of_ble_eq_true rfl) dX12_link_81) hf (fun r8 h H locs rr8 hp hf => ?_)
        refine z_if_eq cx rr8 (tgt := 128) dX12_link_84 (by decide) hf (fun _ hf => ?_) (fun _ hf => ?_)
        · exact hj128 v6 v7 v8 h _ _ ls rv6 rv7 rv8 hp (lv_sub hl [0, 1, 2, 3, 4, 5, 6, 7] rfl) hf
        · refine lv_aload_n cx.1 cx.2.1 dX12_link_87 rfl (lv_at hl 0 rfl) ?_
          refine z_gets cx hp (T := TX12) 12 42 (u0 + 26) rfl zin_12 (by decide) (by decide) ru0 rfl fl_X12_85 dX12_link_88 ?_
          refine lv_iload_n cx.1 cx.2.1 dX12_link_91 rfl (lv_at hl 2 rfl) ?_
          refine z_iald cx hp (zs_12_42 u0 (kt_lt ru0 (by decide)) ru0) ru2 dX12_link_92 hf (fun x9 rx9 hf => ?_)
          refine lv_aload_n cx.1 cx.2.1 dX12_link_93 rfl (lv_at hl 0 rfl) ?_
          refine z_gets cx hp (T := TX12) 12 42 (u0 + 26) rfl zin_12 (by decide) (by decide) ru0 rfl fl_X12_85 dX12_link_94 ?_
          refine lv_iload_n cx.1 cx.2.1 dX12_link_97 rfl (lv_at hl 3 rfl) ?_
          refine z_iald cx hp (zs_12_42 u0 (kt_lt ru0 (by decide)) ru0) ru3 dX12_link_98 hf (fun x10 rx10 hf => ?_)
          refine z_jn hf (fun j => ∀ (x125_6 : Int) (x125_7 : Int) (x125_8 : Int) (h : HF) (H : Heap) (locs : List Loc) (ls : Array Slot), rng x125_6 → rng x125_7 → rng x125_8 → Hp g B s h H locs → lv_has ls 10 [(0, .ref (B + u0)), (1, .int (ii u1)), (2, .int (ii u2)), (3, .int (ii u3)), (5, .int (ii u5)), (6, .int (ii x125_6)), (7, .int (ii x125_7)), (8, .int (ii x125_8))] → j x125_6 x125_7 x125_8 h = some o → W p l e (rmn 4) s m args below meth c H locs 0 0 Q (F0 m 125 ls [])) ?_ (fun j125 hj125 hf => ?_)
          · intro x125_6 x125_7 x125_8 h H locs ls rx125_6 rx125_7 rx125_8 hp hl hf
            refine z_iinc cx (fun x11 => [(6, .int (ii x11)), (0, .ref (B + u0)), (1, .int (ii u1)), (2, .int (ii u2)), (3, .int (ii u3)), (5, .int (ii u5)), (7, .int (ii x125_7)), (8, .int (ii x125_8))]) dX12_link_125 hl (k := 5) rfl (by decide) (fun _ => rfl) hf (fun x11 rx11 hf ls hl => ?_)
            exact hj128 x11 x125_7 x125_8 h _ _ ls rx11 rx125_7 rx125_8 hp (lv_sub hl [1, 2, 3, 4, 5, 0, 6, 7] rfl) hf
          refine z_icmp_ne cx rx9 rx10 (tgt := 125) dX12_link_99 (by decide) hf (fun _ hf => ?_) (fun _ hf => ?_)
          · refine lv_aload_n cx.1 cx.2.1 dX12_link_102 rfl (lv_at hl 0 rfl) ?_
            refine lv_iload cx.1 cx.2.1 dX12_link_103 (lv_at hl 4 rfl) ?_
            refine z_ci cx hp (fun o' hx => zrunV (n := 4) (As := [.int (ii u5)]) (rest := []) cx hp (mX12_classes F l g B h u0 u5 ru0 ru5 o' hx) 12 ru0 (by decide) rfl vw_X12_classes ml_X12_333 (by decide) rfl hl.1 rfl (Nat.le_of_ble_eq_true rfl) dX12_link_105) hf (fun r12 h H locs rr12 hp hf => ?_)
            refine lv_iload cx.1 cx.2.1 dX12_link_108 (lv_at hl 7 rfl) ?_
            refine z_icmp_le cx rr12 rv8 (tgt := 125) dX12_link_110 (by decide) hf (fun _ hf => ?_) (fun _ hf => ?_)
            · refine lv_aload_n cx.1 cx.2.1 dX12_link_113 rfl (lv_at hl 0 rfl) ?_
              refine lv_iload cx.1 cx.2.1 dX12_link_114 (lv_at hl 4 rfl) ?_
              refine z_ci cx hp (fun o' hx => zrunV (n := 4) (As := [.int (ii u5)]) (rest := []) cx hp (mX12_classes F l g B h u0 u5 ru0 ru5 o' hx) 12 ru0 (by decide) rfl vw_X12_classes ml_X12_333 (by decide) rfl hl.1 rfl (Nat.le_of_ble_eq_true rfl) dX12_link_116) hf (fun r13 h H locs rr13 hp hf => ?_)
              refine lv_istore (lv' := [(8, .int (ii r13)), (0, .ref (B + u0)), (1, .int (ii u1)), (2, .int (ii u2)), (3, .int (ii u3)), (5, .int (ii u5)), (6, .int (ii v6)), (7, .int (ii v7)), (9, .int (ii v9))]) cx.1 cx.2.1 dX12_link_119 hl (by decide) rfl (fun ls hl => ?_)
              refine lv_iload cx.1 cx.2.1 dX12_link_121 (lv_at hl 6 rfl) ?_
              refine lv_istore (lv' := [(7, .int (ii v6)), (8, .int (ii r13)), (0, .ref (B + u0)), (1, .int (ii u1)), (2, .int (ii u2)), (3, .int (ii u3)), (5, .int (ii u5)), (6, .int (ii v6)), (9, .int (ii v9))]) cx.1 cx.2.1 dX12_link_123 hl (by decide) rfl (fun ls hl => ?_)
              exact hj125 v6 v6 r13 h _ _ ls rv6 rv6 rr13 hp (lv_sub hl [2, 3, 4, 5, 6, 7, 0, 1] rfl) hf
            · exact hj125 v6 v7 v8 h _ _ ls rv6 rv7 rv8 hp (lv_sub hl [0, 1, 2, 3, 4, 5, 6, 7] rfl) hf
          · exact hj125 v6 v7 v8 h _ _ ls rv6 rv7 rv8 hp (lv_sub hl [0, 1, 2, 3, 4, 5, 6, 7] rfl) hf
def fX12_link (F : Nat) (a0 : Nat) (a1 : Int) (a2 : Int) (a3 : Int) (h : HF) : RO :=
  zpf h a0 0 0 fun h =>
  zbd (fX12_refuse F a0 a1 h) fun r1 h =>
  if r1 = 0 then (
    zbd (fX12_isElement F a0 a1 a2 h) fun r2 h =>
    zjn (fun  (h : HF) => (
      some ((-3), h)
    )) fun j38 =>
    if r2 = 0 then (
      j38  h
    ) else (
      zbd (fX12_isElement F a0 a1 a3 h) fun r3 h =>
      if r3 = 0 then (
        j38  h
      ) else (
        zrd h (a0 + 3) a1 fun x4 =>
        zbd (fX12_firstLine F a0 h) fun _ h =>
        zjn (fun (x139_7 : Int) (h : HF) => (
          some (x139_7, h)
        )) fun j139 =>
        LX12_link_65 F a0 a1 a2 a3 x4 j139 F 0 (-1) 0 1 h
      )
    )
  ) else (
    some (r1, h)
  )
set_option maxHeartbeats 4000000 in
set_option maxRecDepth 100000 in
theorem mX12_link (F : Nat) (l : Launch) (g : zG) (B : Nat) (h : HF) (a0 : Nat) (a1 : Int) (a2 : Int) (a3 : Int) (ra0 : kt a0 = 15) (ra1 : rng a1) (ra2 : rng a2) (ra3 : rng a3) : CTi l g B yX12_link cX12_link 10 (some .int) 4 [.ref (B + a0), .int (ii a1), .int (ii a2), .int (ii a3)] h (fX12_link F a0 a1 a2 a3 h) := by
  refine z_enterI (by decide) rfl (Nat.le_of_ble_eq_true rfl) ?_
  intro p e s m args below meth c ls o Q cx hp hl hf hQ
  have hl : lv_has ls 10 [(0, .ref (B + a0)), (1, .int (ii a1)), (2, .int (ii a2)), (3, .int (ii a3))] := hl
  unfold fX12_link at hf
  refine lv_aload_n cx.1 cx.2.1 dX12_link_0 rfl (lv_at hl 0 rfl) ?_
  refine z_iconst cx dX12_link_1 ?_
  refine z_puti cx hp (T := TX12) tyX12 tyX12_ok nmX12 12 0 (by decide) rfl zin_12 (by decide) (by decide) ra0 rfl rfl rfl fl_X12_115 dX12_link_2 hf (fun h H locs hp hf => ?_)
  refine lv_aload_n cx.1 cx.2.1 dX12_link_5 rfl (lv_at hl 0 rfl) ?_
  refine lv_iload_n cx.1 cx.2.1 dX12_link_6 rfl (lv_at hl 1 rfl) ?_
  refine z_ci cx hp (fun o' hx => zrunV (n := 4) (As := [.int (ii a1)]) (rest := []) cx hp (mX12_refuse F l g B h a0 a1 ra0 ra1 o' hx) 12 ra0 (by decide) rfl vw_X12_refuse ml_X12_168 (by decide) rfl hl.1 rfl (Nat.le_of_ble_eq_true rfl) dX12_link_7) hf (fun r1 h H locs rr1 hp hf => ?_)
  refine lv_istore (lv' := [(4, .int (ii r1)), (0, .ref (B + a0)), (1, .int (ii a1)), (2, .int (ii a2)), (3, .int (ii a3))]) cx.1 cx.2.1 dX12_link_10 hl (by decide) rfl (fun ls hl => ?_)
  refine lv_iload cx.1 cx.2.1 dX12_link_12 (lv_at hl 0 rfl) ?_
  refine z_if_eq cx rr1 (tgt := 20) dX12_link_14 (by decide) hf (fun _ hf => ?_) (fun _ hf => ?_)
  · refine lv_aload_n cx.1 cx.2.1 dX12_link_20 rfl (lv_at hl 1 rfl) ?_
    refine lv_iload_n cx.1 cx.2.1 dX12_link_21 rfl (lv_at hl 2 rfl) ?_
    refine lv_iload_n cx.1 cx.2.1 dX12_link_22 rfl (lv_at hl 3 rfl) ?_
    refine z_ci cx hp (fun o' hx => zrunV (n := 4) (As := [.int (ii a1), .int (ii a2)]) (rest := []) cx hp (mX12_isElement F l g B h a0 a1 a2 ra0 ra1 ra2 o' hx) 12 ra0 (by decide) rfl vw_X12_isElement ml_X12_164 (by decide) rfl hl.1 rfl (Nat.le_of_ble_eq_true rfl) dX12_link_23) hf (fun r2 h H locs rr2 hp hf => ?_)
    refine z_jn hf (fun j => ∀  (h : HF) (H : Heap) (locs : List Loc) (ls : Array Slot), Hp g B s h H locs → lv_has ls 10 [] → j  h = some o → W p l e (rmn 4) s m args below meth c H locs 0 0 Q (F0 m 38 ls [])) ?_ (fun j38 hj38 hf => ?_)
    · intro  h H locs ls  hp hl hf
      refine z_bipush cx (by decide) dX12_link_38 ?_
      rw [hQ]; exact z_iret cx hp (by decide) dX12_link_40 hf
    refine z_if_eq cx rr2 (tgt := 38) dX12_link_26 (by decide) hf (fun _ hf => ?_) (fun _ hf => ?_)
    · exact hj38  h _ _ ls  hp (lv_sub hl [] rfl) hf
    · refine lv_aload_n cx.1 cx.2.1 dX12_link_29 rfl (lv_at hl 1 rfl) ?_
      refine lv_iload_n cx.1 cx.2.1 dX12_link_30 rfl (lv_at hl 2 rfl) ?_
      refine lv_iload_n cx.1 cx.2.1 dX12_link_31 rfl (lv_at hl 4 rfl) ?_
      refine z_ci cx hp (fun o' hx => zrunV (n := 4) (As := [.int (ii a1), .int (ii a3)]) (rest := []) cx hp (mX12_isElement F l g B h a0 a1 a3 ra0 ra1 ra3 o' hx) 12 ra0 (by decide) rfl vw_X12_isElement ml_X12_164 (by decide) rfl hl.1 rfl (Nat.le_of_ble_eq_true rfl) dX12_link_32) hf (fun r3 h H locs rr3 hp hf => ?_)
      refine z_if_ne cx rr3 (tgt := 41) dX12_link_35 (by decide) hf (fun _ hf => ?_) (fun _ hf => ?_)
      · exact hj38  h _ _ ls  hp (lv_sub hl [] rfl) hf
      · refine lv_aload_n cx.1 cx.2.1 dX12_link_41 rfl (lv_at hl 1 rfl) ?_
        refine z_gets cx hp (T := TX12) 12 6 (a0 + 3) rfl zin_12 (by decide) (by decide) ra0 rfl fl_X12_16 dX12_link_42 ?_
        refine lv_iload_n cx.1 cx.2.1 dX12_link_45 rfl (lv_at hl 2 rfl) ?_
        refine z_iald cx hp (zs_12_6 a0 (kt_lt ra0 (by decide)) ra0) ra1 dX12_link_46 hf (fun x4 rx4 hf => ?_)
        refine lv_istore (lv' := [(5, .int (ii x4)), (4, .int (ii r1)), (0, .ref (B + a0)), (1, .int (ii a1)), (2, .int (ii a2)), (3, .int (ii a3))]) cx.1 cx.2.1 dX12_link_47 hl (by decide) rfl (fun ls hl => ?_)
        refine z_iconst cx dX12_link_49 ?_
        refine lv_istore (lv' := [(6, .int (ii 0)), (5, .int (ii x4)), (4, .int (ii r1)), (0, .ref (B + a0)), (1, .int (ii a1)), (2, .int (ii a2)), (3, .int (ii a3))]) cx.1 cx.2.1 dX12_link_50 hl (by decide) rfl (fun ls hl => ?_)
        refine z_iconst cx dX12_link_52 ?_
        refine lv_istore (lv' := [(7, .int (ii (-1))), (6, .int (ii 0)), (5, .int (ii x4)), (4, .int (ii r1)), (0, .ref (B + a0)), (1, .int (ii a1)), (2, .int (ii a2)), (3, .int (ii a3))]) cx.1 cx.2.1 dX12_link_53 hl (by decide) rfl (fun ls hl => ?_)
        refine z_iconst cx dX12_link_55 ?_
        refine lv_istore (lv' := [(8, .int (ii 0)), (7, .int (ii (-1))), (6, .int (ii 0)), (5, .int (ii x4)), (4, .int (ii r1)), (0, .ref (B + a0)), (1, .int (ii a1)), (2, .int (ii a2)), (3, .int (ii a3))]) cx.1 cx.2.1 dX12_link_56 hl (by decide) rfl (fun ls hl => ?_)
        refine lv_aload_n cx.1 cx.2.1 dX12_link_58 rfl (lv_at hl 5 rfl) ?_
        refine z_cv cx hp (fun o' hx => zrunV (n := 4) (As := []) (rest := []) cx hp (mX12_firstLine F l g B h a0 ra0 o' hx) 12 ra0 (by decide) rfl vw_X12_firstLine ml_X12_314 (by decide) rfl hl.1 rfl (Nat.le_of_ble_eq_true rfl) dX12_link_59) hf (fun _ h H locs hp hf => ?_)
        refine z_iconst cx dX12_link_62 ?_
        refine lv_istore (lv' := [(9, .int (ii 1)), (8, .int (ii 0)), (7, .int (ii (-1))), (6, .int (ii 0)), (5, .int (ii x4)), (4, .int (ii r1)), (0, .ref (B + a0)), (1, .int (ii a1)), (2, .int (ii a2)), (3, .int (ii a3))]) cx.1 cx.2.1 dX12_link_63 hl (by decide) rfl (fun ls hl => ?_)
        refine z_jn hf (fun j => ∀ (x139_7 : Int) (h : HF) (H : Heap) (locs : List Loc) (ls : Array Slot), rng x139_7 → Hp g B s h H locs → lv_has ls 10 [(7, .int (ii x139_7))] → j x139_7 h = some o → W p l e (rmn 4) s m args below meth c H locs 0 0 Q (F0 m 139 ls [])) ?_ (fun j139 hj139 hf => ?_)
        · intro x139_7 h H locs ls rx139_7 hp hl hf
          refine lv_iload cx.1 cx.2.1 dX12_link_139 (lv_at hl 0 rfl) ?_
          rw [hQ]; exact z_iret cx hp rx139_7 dX12_link_141 hf
        exact wX12_link_65 F cx a0 ra0 a1 ra1 a2 ra2 a3 ra3 x4 rx4 j139 hj139 F 0 (-1) 0 1 h _ _ ls (by decide) (by decide) (by decide) (by decide) hp (lv_sub hl [6, 7, 8, 9, 4, 3, 2, 1, 0] rfl) hf
  · refine lv_iload cx.1 cx.2.1 dX12_link_17 (lv_at hl 0 rfl) ?_
    rw [hQ]; exact z_iret cx hp rr1 dX12_link_19 hf
theorem dX12_copyLine_0 : decode cX12_copyLine 0 = .ok (.iconst 0, 1) := by decide +kernel
theorem dX12_copyLine_1 : decode cX12_copyLine 1 = .ok (.istore_n 2, 1) := by decide +kernel
theorem dX12_copyLine_2 : decode cX12_copyLine 2 = .ok (.iload_n 2, 1) := by decide +kernel
theorem dX12_copyLine_3 : decode cX12_copyLine 3 = .ok (.bipush 7, 2) := by decide +kernel
theorem dX12_copyLine_5 : decode cX12_copyLine 5 = .ok (.if_icmp .ge 18, 3) := by decide +kernel
theorem dX12_copyLine_8 : decode cX12_copyLine 8 = .ok (.aload_n 1, 1) := by decide +kernel
theorem dX12_copyLine_9 : decode cX12_copyLine 9 = .ok (.iload_n 2, 1) := by decide +kernel
theorem dX12_copyLine_10 : decode cX12_copyLine 10 = .ok (.aload_n 0, 1) := by decide +kernel
theorem dX12_copyLine_11 : decode cX12_copyLine 11 = .ok (.getfield 85, 3) := by decide +kernel
theorem dX12_copyLine_14 : decode cX12_copyLine 14 = .ok (.iload_n 2, 1) := by decide +kernel
theorem dX12_copyLine_15 : decode cX12_copyLine 15 = .ok (.iaload, 1) := by decide +kernel
theorem dX12_copyLine_16 : decode cX12_copyLine 16 = .ok (.iastore, 1) := by decide +kernel
theorem dX12_copyLine_17 : decode cX12_copyLine 17 = .ok (.iinc 2 1, 3) := by decide +kernel
theorem dX12_copyLine_20 : decode cX12_copyLine 20 = .ok (.goto (-18), 3) := by decide +kernel
theorem dX12_copyLine_23 : decode cX12_copyLine 23 = .ok (.return_, 1) := by decide +kernel
def LX12_copyLine_2 (F : Nat) (u0 : Nat) (u1 : Nat) (k23 : HF → RO) : Nat → Int → HF → RO
  | 0, _, _ => none
  | n + 1, v2, h =>
    if v2 < 7 then (
      zrd h (u0 + 26) v2 fun x1 =>
      zwr h u1 v2 x1 fun h =>
      zlet (wr (v2 + 1)) fun x2 =>
      LX12_copyLine_2 F u0 u1 k23 n x2 h
    ) else (
      k23  h
    )
set_option maxHeartbeats 4000000 in
set_option maxRecDepth 100000 in
theorem wX12_copyLine_2 {p : Program} {l : Launch} {e : Env} {s : State} {m : MethodId} {args : Array Value} {below : List Frame} {meth : Method} {c : Code} {Q : State → Prop} {g : zG} {B : Nat} {o : Int × HF} (F : Nat) (cx : Cx p s m args meth c cX12_copyLine 3 RX12 none g B) (u0 : Nat) (ru0 : kt u0 = 15) (u1 : Nat) (ru1 : kt u1 = 0) (k23 : HF → RO) (hk23 : ∀  (h : HF) (H : Heap) (locs : List Loc) (ls : Array Slot), Hp g B s h H locs → lv_has ls 3 [] → k23  h = some o → W p l e (rmn 0) s m args below meth c H locs 0 0 Q (F0 m 23 ls [])) : ∀ (n : Nat) (v2 : Int) (h : HF) (H : Heap) (locs : List Loc) (ls : Array Slot), rng v2 → Hp g B s h H locs → lv_has ls 3 [(0, .ref (B + u0)), (1, .ref (B + u1)), (2, .int (ii v2))] → LX12_copyLine_2 F u0 u1 k23 n v2 h = some o → W p l e (rmn 0) s m args below meth c H locs 0 0 Q (F0 m 2 ls []) := by
  intro n
  induction n with
  | zero =>
    intro v2 h H locs ls rv2 hp hl hf
    cases hf
  | succ n ih =>
    intro v2 h H locs ls rv2 hp hl hf
    rw [LX12_copyLine_2] at hf
    refine lv_iload_n cx.1 cx.2.1 dX12_copyLine_2 rfl (lv_at hl 2 rfl) ?_
    refine z_bipush cx (by decide) dX12_copyLine_3 ?_
    refine z_icmp_ge cx rv2 (by decide) (tgt := 23) dX12_copyLine_5 (by decide) hf (fun _ hf => ?_) (fun _ hf => ?_)
    · refine lv_aload_n cx.1 cx.2.1 dX12_copyLine_8 rfl (lv_at hl 1 rfl) ?_
      refine lv_iload_n cx.1 cx.2.1 dX12_copyLine_9 rfl (lv_at hl 2 rfl) ?_
      refine lv_aload_n cx.1 cx.2.1 dX12_copyLine_10 rfl (lv_at hl 0 rfl) ?_
      refine z_gets cx hp (T := TX12) 12 42 (u0 + 26) rfl zin_12 (by decide) (by decide) ru0 rfl fl_X12_85 dX12_copyLine_11 ?_
      refine lv_iload_n cx.1 cx.2.1 dX12_copyLine_14 rfl (lv_at hl 2 rfl) ?_
      refine z_iald cx hp (zs_12_42 u0 (kt_lt ru0 (by decide)) ru0) rv2 dX12_copyLine_15 hf (fun x1 rx1 hf => ?_)
      refine z_iast cx hp ru1 rv2 rx1 dX12_copyLine_16 hf (fun h H locs hp hf => ?_)
      refine z_iinc cx (fun x2 => [(2, .int (ii x2)), (0, .ref (B + u0)), (1, .ref (B + u1))]) dX12_copyLine_17 hl (k := 2) rfl (by decide) (fun _ => rfl) hf (fun x2 rx2 hf ls hl => ?_)
      refine lv_goto (tgt := 2) cx.1 cx.2.1 dX12_copyLine_20 (by decide) ?_
      exact ih x2 h _ _ ls rx2 hp (lv_sub hl [1, 2, 0] rfl) hf
    · exact hk23  h _ _ ls  hp (lv_sub hl [] rfl) hf
def fX12_copyLine (F : Nat) (a0 : Nat) (a1 : Nat) (h : HF) : RO :=
  zjn (fun  (h : HF) => (
    some (0, h)
  )) fun j23 =>
  LX12_copyLine_2 F a0 a1 j23 F 0 h
set_option maxHeartbeats 4000000 in
set_option maxRecDepth 100000 in
theorem mX12_copyLine (F : Nat) (l : Launch) (g : zG) (B : Nat) (h : HF) (a0 : Nat) (a1 : Nat) (ra0 : kt a0 = 15) (ra1 : kt a1 = 0) : CTv l g B yX12_copyLine cX12_copyLine 3 0 [.ref (B + a0), .ref (B + a1)] h (fX12_copyLine F a0 a1 h) := by
  refine z_enterV (by decide) rfl (Nat.le_of_ble_eq_true rfl) ?_
  intro p e s m args below meth c ls o Q cx hp hl hf hQ
  have hl : lv_has ls 3 [(0, .ref (B + a0)), (1, .ref (B + a1))] := hl
  unfold fX12_copyLine at hf
  refine z_iconst cx dX12_copyLine_0 ?_
  refine lv_istore_n (lv' := [(2, .int (ii 0)), (0, .ref (B + a0)), (1, .ref (B + a1))]) cx.1 cx.2.1 dX12_copyLine_1 rfl hl (by decide) rfl (fun ls hl => ?_)
  refine z_jn hf (fun j => ∀  (h : HF) (H : Heap) (locs : List Loc) (ls : Array Slot), Hp g B s h H locs → lv_has ls 3 [] → j  h = some o → W p l e (rmn 0) s m args below meth c H locs 0 0 Q (F0 m 23 ls [])) ?_ (fun j23 hj23 hf => ?_)
  · intro  h H locs ls  hp hl hf
    rw [hQ]; exact z_vret cx hp dX12_copyLine_23 hf
  exact wX12_copyLine_2 F cx a0 ra0 a1 ra1 j23 hj23 F 0 h _ _ ls (by decide) hp (lv_sub hl [1, 2, 0] rfl) hf
theorem dX12_joins_0 : decode cX12_joins 0 = .ok (.iconst 0, 1) := by decide +kernel
theorem dX12_joins_1 : decode cX12_joins 1 = .ok (.istore_n 3, 1) := by decide +kernel
theorem dX12_joins_2 : decode cX12_joins 2 = .ok (.iload_n 3, 1) := by decide +kernel
theorem dX12_joins_3 : decode cX12_joins 3 = .ok (.iload_n 2, 1) := by decide +kernel
theorem dX12_joins_4 : decode cX12_joins 4 = .ok (.if_icmp .ge 28, 3) := by decide +kernel
theorem dX12_joins_7 : decode cX12_joins 7 = .ok (.aload_n 0, 1) := by decide +kernel
theorem dX12_joins_8 : decode cX12_joins 8 = .ok (.getfield 85, 3) := by decide +kernel
theorem dX12_joins_11 : decode cX12_joins 11 = .ok (.iload_n 3, 1) := by decide +kernel
theorem dX12_joins_12 : decode cX12_joins 12 = .ok (.iaload, 1) := by decide +kernel
theorem dX12_joins_13 : decode cX12_joins 13 = .ok (.aload_n 0, 1) := by decide +kernel
theorem dX12_joins_14 : decode cX12_joins 14 = .ok (.getfield 85, 3) := by decide +kernel
theorem dX12_joins_17 : decode cX12_joins 17 = .ok (.aload_n 1, 1) := by decide +kernel
theorem dX12_joins_18 : decode cX12_joins 18 = .ok (.iload_n 3, 1) := by decide +kernel
theorem dX12_joins_19 : decode cX12_joins 19 = .ok (.iaload, 1) := by decide +kernel
theorem dX12_joins_20 : decode cX12_joins 20 = .ok (.iaload, 1) := by decide +kernel
theorem dX12_joins_21 : decode cX12_joins 21 = .ok (.if_icmp .eq 5, 3) := by decide +kernel
theorem dX12_joins_24 : decode cX12_joins 24 = .ok (.iconst 0, 1) := by decide +kernel
theorem dX12_joins_25 : decode cX12_joins 25 = .ok (.ireturn, 1) := by decide +kernel
theorem dX12_joins_26 : decode cX12_joins 26 = .ok (.iinc 3 1, 3) := by decide +kernel
theorem dX12_joins_29 : decode cX12_joins 29 = .ok (.goto (-27), 3) := by decide +kernel
theorem dX12_joins_32 : decode cX12_joins 32 = .ok (.iconst 1, 1) := by decide +kernel
theorem dX12_joins_33 : decode cX12_joins 33 = .ok (.ireturn, 1) := by decide +kernel
def LX12_joins_2 (F : Nat) (u0 : Nat) (u1 : Nat) (u2 : Int) (k32 : HF → RO) (k24 : HF → RO) : Nat → Int → HF → RO
  | 0, _, _ => none
  | n + 1, v3, h =>
    if v3 < u2 then (
      zrd h (u0 + 26) v3 fun x1 =>
      zrd h u1 v3 fun x2 =>
      zrd h (u0 + 26) x2 fun x3 =>
      if x1 = x3 then (
        zlet (wr (v3 + 1)) fun x4 =>
        LX12_joins_2 F u0 u1 u2 k32 k24 n x4 h
      ) else (
        k24  h
      )
    ) else (
      k32  h
    )
set_option maxHeartbeats 4000000 in
set_option maxRecDepth 100000 in
theorem wX12_joins_2 {p : Program} {l : Launch} {e : Env} {s : State} {m : MethodId} {args : Array Value} {below : List Frame} {meth : Method} {c : Code} {Q : State → Prop} {g : zG} {B : Nat} {o : Int × HF} (F : Nat) (cx : Cx p s m args meth c cX12_joins 4 RX12 (some .boolean) g B) (u0 : Nat) (ru0 : kt u0 = 15) (u1 : Nat) (ru1 : kt u1 = 0) (u2 : Int) (ru2 : rng u2) (k32 : HF → RO) (hk32 : ∀  (h : HF) (H : Heap) (locs : List Loc) (ls : Array Slot), Hp g B s h H locs → lv_has ls 4 [] → k32  h = some o → W p l e (rmn 0) s m args below meth c H locs 0 0 Q (F0 m 32 ls [])) (k24 : HF → RO) (hk24 : ∀  (h : HF) (H : Heap) (locs : List Loc) (ls : Array Slot), Hp g B s h H locs → lv_has ls 4 [] → k24  h = some o → W p l e (rmn 0) s m args below meth c H locs 0 0 Q (F0 m 24 ls [])) : ∀ (n : Nat) (v3 : Int) (h : HF) (H : Heap) (locs : List Loc) (ls : Array Slot), rng v3 → Hp g B s h H locs → lv_has ls 4 [(0, .ref (B + u0)), (1, .ref (B + u1)), (2, .int (ii u2)), (3, .int (ii v3))] → LX12_joins_2 F u0 u1 u2 k32 k24 n v3 h = some o → W p l e (rmn 0) s m args below meth c H locs 0 0 Q (F0 m 2 ls []) := by
  intro n
  induction n with
  | zero =>
    intro v3 h H locs ls rv3 hp hl hf
    cases hf
  | succ n ih =>
    intro v3 h H locs ls rv3 hp hl hf
    rw [LX12_joins_2] at hf
    refine lv_iload_n cx.1 cx.2.1 dX12_joins_2 rfl (lv_at hl 3 rfl) ?_
    refine lv_iload_n cx.1 cx.2.1 dX12_joins_3 rfl (lv_at hl 2 rfl) ?_
    refine z_icmp_ge cx rv3 ru2 (tgt := 32) dX12_joins_4 (by decide) hf (fun _ hf => ?_) (fun _ hf => ?_)
    · refine lv_aload_n cx.1 cx.2.1 dX12_joins_7 rfl (lv_at hl 0 rfl) ?_
      refine z_gets cx hp (T := TX12) 12 42 (u0 + 26) rfl zin_12 (by decide) (by decide) ru0 rfl fl_X12_85 dX12_joins_8 ?_
      refine lv_iload_n cx.1 cx.2.1 dX12_joins_11 rfl (lv_at hl 3 rfl) ?_
      refine z_iald cx hp (zs_12_42 u0 (kt_lt ru0 (by decide)) ru0) rv3 dX12_joins_12 hf (fun x1 rx1 hf => ?_)
      refine lv_aload_n cx.1 cx.2.1 dX12_joins_13 rfl (lv_at hl 0 rfl) ?_
      refine z_gets cx hp (T := TX12) 12 42 (u0 + 26) rfl zin_12 (by decide) (by decide) ru0 rfl fl_X12_85 dX12_joins_14 ?_
      refine lv_aload_n cx.1 cx.2.1 dX12_joins_17 rfl (lv_at hl 1 rfl) ?_
      refine lv_iload_n cx.1 cx.2.1 dX12_joins_18 rfl (lv_at hl 3 rfl) ?_
      refine z_iald cx hp ru1 rv3 dX12_joins_19 hf (fun x2 rx2 hf => ?_)
      refine z_iald cx hp (zs_12_42 u0 (kt_lt ru0 (by decide)) ru0) rx2 dX12_joins_20 hf (fun x3 rx3 hf => ?_)
      refine z_icmp_eq cx rx1 rx3 (tgt := 26) dX12_joins_21 (by decide) hf (fun _ hf => ?_) (fun _ hf => ?_)
      · refine z_iinc cx (fun x4 => [(3, .int (ii x4)), (0, .ref (B + u0)), (1, .ref (B + u1)), (2, .int (ii u2))]) dX12_joins_26 hl (k := 3) rfl (by decide) (fun _ => rfl) hf (fun x4 rx4 hf ls hl => ?_)
        refine lv_goto (tgt := 2) cx.1 cx.2.1 dX12_joins_29 (by decide) ?_
        exact ih x4 h _ _ ls rx4 hp (lv_sub hl [1, 2, 3, 0] rfl) hf
      · exact hk24  h _ _ ls  hp (lv_sub hl [] rfl) hf
    · exact hk32  h _ _ ls  hp (lv_sub hl [] rfl) hf
def fX12_joins (F : Nat) (a0 : Nat) (a1 : Nat) (a2 : Int) (h : HF) : RO :=
  zjn (fun  (h : HF) => (
    zrz 1 h
  )) fun j32 =>
  zjn (fun  (h : HF) => (
    zrz 0 h
  )) fun j24 =>
  LX12_joins_2 F a0 a1 a2 j32 j24 F 0 h
set_option maxHeartbeats 4000000 in
set_option maxRecDepth 100000 in
theorem mX12_joins (F : Nat) (l : Launch) (g : zG) (B : Nat) (h : HF) (a0 : Nat) (a1 : Nat) (a2 : Int) (ra0 : kt a0 = 15) (ra1 : kt a1 = 0) (ra2 : rng a2) : CTi l g B yX12_joins cX12_joins 4 (some .boolean) 0 [.ref (B + a0), .ref (B + a1), .int (ii a2)] h (fX12_joins F a0 a1 a2 h) := by
  refine z_enterI (by decide) rfl (Nat.le_of_ble_eq_true rfl) ?_
  intro p e s m args below meth c ls o Q cx hp hl hf hQ
  have hl : lv_has ls 4 [(0, .ref (B + a0)), (1, .ref (B + a1)), (2, .int (ii a2))] := hl
  unfold fX12_joins at hf
  refine z_iconst cx dX12_joins_0 ?_
  refine lv_istore_n (lv' := [(3, .int (ii 0)), (0, .ref (B + a0)), (1, .ref (B + a1)), (2, .int (ii a2))]) cx.1 cx.2.1 dX12_joins_1 rfl hl (by decide) rfl (fun ls hl => ?_)
  refine z_jn hf (fun j => ∀  (h : HF) (H : Heap) (locs : List Loc) (ls : Array Slot), Hp g B s h H locs → lv_has ls 4 [] → j  h = some o → W p l e (rmn 0) s m args below meth c H locs 0 0 Q (F0 m 32 ls [])) ?_ (fun j32 hj32 hf => ?_)
  · intro  h H locs ls  hp hl hf
    refine z_iconst cx dX12_joins_32 ?_
    rw [hQ]; exact z_zret cx hp dX12_joins_33 hf
  refine z_jn hf (fun j => ∀  (h : HF) (H : Heap) (locs : List Loc) (ls : Array Slot), Hp g B s h H locs → lv_has ls 4 [] → j  h = some o → W p l e (rmn 0) s m args below meth c H locs 0 0 Q (F0 m 24 ls [])) ?_ (fun j24 hj24 hf => ?_)
  · intro  h H locs ls  hp hl hf
    refine z_iconst cx dX12_joins_24 ?_
    rw [hQ]; exact z_zret cx hp dX12_joins_25 hf
  exact wX12_joins_2 F cx a0 ra0 a1 ra1 a2 ra2 j32 hj32 j24 hj24 F 0 h _ _ ls (by decide) hp (lv_sub hl [1, 2, 3, 0] rfl) hf
theorem dX12_joinsBoth_0 : decode cX12_joinsBoth 0 = .ok (.iconst 0, 1) := by decide +kernel
theorem dX12_joinsBoth_1 : decode cX12_joinsBoth 1 = .ok (.istore_n 2, 1) := by decide +kernel
theorem dX12_joinsBoth_2 : decode cX12_joinsBoth 2 = .ok (.iload_n 2, 1) := by decide +kernel
theorem dX12_joinsBoth_3 : decode cX12_joinsBoth 3 = .ok (.iload_n 1, 1) := by decide +kernel
theorem dX12_joinsBoth_4 : decode cX12_joinsBoth 4 = .ok (.if_icmp .ge 86, 3) := by decide +kernel
theorem dX12_joinsBoth_7 : decode cX12_joinsBoth 7 = .ok (.iconst 0, 1) := by decide +kernel
theorem dX12_joinsBoth_8 : decode cX12_joinsBoth 8 = .ok (.istore_n 3, 1) := by decide +kernel
theorem dX12_joinsBoth_9 : decode cX12_joinsBoth 9 = .ok (.iload_n 3, 1) := by decide +kernel
theorem dX12_joinsBoth_10 : decode cX12_joinsBoth 10 = .ok (.iload_n 1, 1) := by decide +kernel
theorem dX12_joinsBoth_11 : decode cX12_joinsBoth 11 = .ok (.if_icmp .ge 73, 3) := by decide +kernel
theorem dX12_joinsBoth_14 : decode cX12_joinsBoth 14 = .ok (.aload_n 0, 1) := by decide +kernel
theorem dX12_joinsBoth_15 : decode cX12_joinsBoth 15 = .ok (.getfield 88, 3) := by decide +kernel
theorem dX12_joinsBoth_18 : decode cX12_joinsBoth 18 = .ok (.iload_n 2, 1) := by decide +kernel
theorem dX12_joinsBoth_19 : decode cX12_joinsBoth 19 = .ok (.iaload, 1) := by decide +kernel
theorem dX12_joinsBoth_20 : decode cX12_joinsBoth 20 = .ok (.aload_n 0, 1) := by decide +kernel
theorem dX12_joinsBoth_21 : decode cX12_joinsBoth 21 = .ok (.getfield 88, 3) := by decide +kernel
theorem dX12_joinsBoth_24 : decode cX12_joinsBoth 24 = .ok (.iload_n 3, 1) := by decide +kernel
theorem dX12_joinsBoth_25 : decode cX12_joinsBoth 25 = .ok (.iaload, 1) := by decide +kernel
theorem dX12_joinsBoth_26 : decode cX12_joinsBoth 26 = .ok (.if_icmp .ne 22, 3) := by decide +kernel
theorem dX12_joinsBoth_29 : decode cX12_joinsBoth 29 = .ok (.aload_n 0, 1) := by decide +kernel
theorem dX12_joinsBoth_30 : decode cX12_joinsBoth 30 = .ok (.getfield 91, 3) := by decide +kernel
theorem dX12_joinsBoth_33 : decode cX12_joinsBoth 33 = .ok (.iload_n 2, 1) := by decide +kernel
theorem dX12_joinsBoth_34 : decode cX12_joinsBoth 34 = .ok (.iaload, 1) := by decide +kernel
theorem dX12_joinsBoth_35 : decode cX12_joinsBoth 35 = .ok (.aload_n 0, 1) := by decide +kernel
theorem dX12_joinsBoth_36 : decode cX12_joinsBoth 36 = .ok (.getfield 91, 3) := by decide +kernel
theorem dX12_joinsBoth_39 : decode cX12_joinsBoth 39 = .ok (.iload_n 3, 1) := by decide +kernel
theorem dX12_joinsBoth_40 : decode cX12_joinsBoth 40 = .ok (.iaload, 1) := by decide +kernel
theorem dX12_joinsBoth_41 : decode cX12_joinsBoth 41 = .ok (.if_icmp .ne 7, 3) := by decide +kernel
theorem dX12_joinsBoth_44 : decode cX12_joinsBoth 44 = .ok (.iconst 1, 1) := by decide +kernel
theorem dX12_joinsBoth_45 : decode cX12_joinsBoth 45 = .ok (.goto 4, 3) := by decide +kernel
theorem dX12_joinsBoth_48 : decode cX12_joinsBoth 48 = .ok (.iconst 0, 1) := by decide +kernel
theorem dX12_joinsBoth_49 : decode cX12_joinsBoth 49 = .ok (.istore 4, 2) := by decide +kernel
theorem dX12_joinsBoth_51 : decode cX12_joinsBoth 51 = .ok (.iload 4, 2) := by decide +kernel
theorem dX12_joinsBoth_53 : decode cX12_joinsBoth 53 = .ok (.aload_n 0, 1) := by decide +kernel
theorem dX12_joinsBoth_54 : decode cX12_joinsBoth 54 = .ok (.getfield 85, 3) := by decide +kernel
theorem dX12_joinsBoth_57 : decode cX12_joinsBoth 57 = .ok (.iload_n 2, 1) := by decide +kernel
theorem dX12_joinsBoth_58 : decode cX12_joinsBoth 58 = .ok (.iaload, 1) := by decide +kernel
theorem dX12_joinsBoth_59 : decode cX12_joinsBoth 59 = .ok (.aload_n 0, 1) := by decide +kernel
theorem dX12_joinsBoth_60 : decode cX12_joinsBoth 60 = .ok (.getfield 85, 3) := by decide +kernel
theorem dX12_joinsBoth_63 : decode cX12_joinsBoth 63 = .ok (.iload_n 3, 1) := by decide +kernel
theorem dX12_joinsBoth_64 : decode cX12_joinsBoth 64 = .ok (.iaload, 1) := by decide +kernel
theorem dX12_joinsBoth_65 : decode cX12_joinsBoth 65 = .ok (.if_icmp .ne 7, 3) := by decide +kernel
theorem dX12_joinsBoth_68 : decode cX12_joinsBoth 68 = .ok (.iconst 1, 1) := by decide +kernel
theorem dX12_joinsBoth_69 : decode cX12_joinsBoth 69 = .ok (.goto 4, 3) := by decide +kernel
theorem dX12_joinsBoth_72 : decode cX12_joinsBoth 72 = .ok (.iconst 0, 1) := by decide +kernel
theorem dX12_joinsBoth_73 : decode cX12_joinsBoth 73 = .ok (.if_icmp .eq 5, 3) := by decide +kernel
theorem dX12_joinsBoth_76 : decode cX12_joinsBoth 76 = .ok (.iconst 0, 1) := by decide +kernel
theorem dX12_joinsBoth_77 : decode cX12_joinsBoth 77 = .ok (.ireturn, 1) := by decide +kernel
theorem dX12_joinsBoth_78 : decode cX12_joinsBoth 78 = .ok (.iinc 3 1, 3) := by decide +kernel
theorem dX12_joinsBoth_81 : decode cX12_joinsBoth 81 = .ok (.goto (-72), 3) := by decide +kernel
theorem dX12_joinsBoth_84 : decode cX12_joinsBoth 84 = .ok (.iinc 2 1, 3) := by decide +kernel
theorem dX12_joinsBoth_87 : decode cX12_joinsBoth 87 = .ok (.goto (-85), 3) := by decide +kernel
theorem dX12_joinsBoth_90 : decode cX12_joinsBoth 90 = .ok (.iconst 1, 1) := by decide +kernel
theorem dX12_joinsBoth_91 : decode cX12_joinsBoth 91 = .ok (.ireturn, 1) := by decide +kernel
def LX12_joinsBoth_9 (F : Nat) (u0 : Nat) (u1 : Int) (u2 : Int) (k84 : Int → HF → RO) (k76 : HF → RO) : Nat → Int → HF → RO
  | 0, _, _ => none
  | n + 1, v3, h =>
    if v3 < u1 then (
      zrd h (u0 + 27) u2 fun x2 =>
      zrd h (u0 + 27) v3 fun x3 =>
      zjn (fun (x49_3 : Int) (y49_0 : Int) (h : HF) => (
        zrd h (u0 + 26) u2 fun x4 =>
        zrd h (u0 + 26) x49_3 fun x5 =>
        zjn (fun (x73_3 : Int) (y73_0 : Int) (y73_1 : Int) (h : HF) => (
          if y73_1 = y73_0 then (
            zlet (wr (x73_3 + 1)) fun x6 =>
            LX12_joinsBoth_9 F u0 u1 u2 k84 k76 n x6 h
          ) else (
            k76  h
          )
        )) fun j73 =>
        if x4 = x5 then (
          j73 x49_3 1 y49_0 h
        ) else (
          j73 x49_3 0 y49_0 h
        )
      )) fun j49 =>
      zjn (fun (x48_3 : Int) (h : HF) => (
        j49 x48_3 0 h
      )) fun j48 =>
      if x2 = x3 then (
        zrd h (u0 + 28) u2 fun x7 =>
        zrd h (u0 + 28) v3 fun x8 =>
        if x7 = x8 then (
          j49 v3 1 h
        ) else (
          j48 v3 h
        )
      ) else (
        j48 v3 h
      )
    ) else (
      k84 u2 h
    )
set_option maxHeartbeats 4000000 in
set_option maxRecDepth 100000 in
theorem wX12_joinsBoth_9 {p : Program} {l : Launch} {e : Env} {s : State} {m : MethodId} {args : Array Value} {below : List Frame} {meth : Method} {c : Code} {Q : State → Prop} {g : zG} {B : Nat} {o : Int × HF} (F : Nat) (cx : Cx p s m args meth c cX12_joinsBoth 5 RX12 (some .boolean) g B) (u0 : Nat) (ru0 : kt u0 = 15) (u1 : Int) (ru1 : rng u1) (u2 : Int) (ru2 : rng u2) (k84 : Int → HF → RO) (hk84 : ∀ (x2 : Int) (h : HF) (H : Heap) (locs : List Loc) (ls : Array Slot), rng x2 → Hp g B s h H locs → lv_has ls 5 [(0, .ref (B + u0)), (1, .int (ii u1)), (2, .int (ii x2))] → k84 x2 h = some o → W p l e (rmn 0) s m args below meth c H locs 0 0 Q (F0 m 84 ls [])) (k76 : HF → RO) (hk76 : ∀  (h : HF) (H : Heap) (locs : List Loc) (ls : Array Slot), Hp g B s h H locs → lv_has ls 5 [] → k76  h = some o → W p l e (rmn 0) s m args below meth c H locs 0 0 Q (F0 m 76 ls [])) : ∀ (n : Nat) (v3 : Int) (h : HF) (H : Heap) (locs : List Loc) (ls : Array Slot), rng v3 → Hp g B s h H locs → lv_has ls 5 [(0, .ref (B + u0)), (1, .int (ii u1)), (2, .int (ii u2)), (3, .int (ii v3))] → LX12_joinsBoth_9 F u0 u1 u2 k84 k76 n v3 h = some o → W p l e (rmn 0) s m args below meth c H locs 0 0 Q (F0 m 9 ls []) := by
  intro n
  induction n with
  | zero =>
    intro v3 h H locs ls rv3 hp hl hf
    cases hf
  | succ n ih =>
    intro v3 h H locs ls rv3 hp hl hf
    rw [LX12_joinsBoth_9] at hf
    refine lv_iload_n cx.1 cx.2.1 dX12_joinsBoth_9 rfl (lv_at hl 3 rfl) ?_
    refine lv_iload_n cx.1 cx.2.1 dX12_joinsBoth_10 rfl (lv_at hl 1 rfl) ?_
    refine z_icmp_ge cx rv3 ru1 (tgt := 84) dX12_joinsBoth_11 (by decide) hf (fun _ hf => ?_) (fun _ hf => ?_)
    · refine lv_aload_n cx.1 cx.2.1 dX12_joinsBoth_14 rfl (lv_at hl 0 rfl) ?_
      refine z_gets cx hp (T := TX12) 12 44 (u0 + 27) rfl zin_12 (by decide) (by decide) ru0 rfl fl_X12_88 dX12_joinsBoth_15 ?_
      refine lv_iload_n cx.1 cx.2.1 dX12_joinsBoth_18 rfl (lv_at hl 2 rfl) ?_
      refine z_iald cx hp (zs_12_44 u0 (kt_lt ru0 (by decide)) ru0) ru2 dX12_joinsBoth_19 hf (fun x2 rx2 hf => ?_)
      refine lv_aload_n cx.1 cx.2.1 dX12_joinsBoth_20 rfl (lv_at hl 0 rfl) ?_
      refine z_gets cx hp (T := TX12) 12 44 (u0 + 27) rfl zin_12 (by decide) (by decide) ru0 rfl fl_X12_88 dX12_joinsBoth_21 ?_
      refine lv_iload_n cx.1 cx.2.1 dX12_joinsBoth_24 rfl (lv_at hl 3 rfl) ?_
      refine z_iald cx hp (zs_12_44 u0 (kt_lt ru0 (by decide)) ru0) rv3 dX12_joinsBoth_25 hf (fun x3 rx3 hf => ?_)
      refine z_jn hf (fun j => ∀ (x49_3 : Int) (y49_0 : Int) (h : HF) (H : Heap) (locs : List Loc) (ls : Array Slot), rng x49_3 → rng y49_0 → Hp g B s h H locs → lv_has ls 5 [(0, .ref (B + u0)), (1, .int (ii u1)), (2, .int (ii u2)), (3, .int (ii x49_3))] → j x49_3 y49_0 h = some o → W p l e (rmn 0) s m args below meth c H locs 0 0 Q (F0 m 49 ls [.int (ii y49_0)])) ?_ (fun j49 hj49 hf => ?_)
      · intro x49_3 y49_0 h H locs ls rx49_3 ry49_0 hp hl hf
        refine lv_istore (lv' := [(4, .int (ii y49_0)), (0, .ref (B + u0)), (1, .int (ii u1)), (2, .int (ii u2)), (3, .int (ii x49_3))]) cx.1 cx.2.1 dX12_joinsBoth_49 hl (by decide) rfl (fun ls hl => ?_)
        refine lv_iload cx.1 cx.2.1 dX12_joinsBoth_51 (lv_at hl 0 rfl) ?_
        refine lv_aload_n cx.1 cx.2.1 dX12_joinsBoth_53 rfl (lv_at hl 1 rfl) ?_
        refine z_gets cx hp (T := TX12) 12 42 (u0 + 26) rfl zin_12 (by decide) (by decide) ru0 rfl fl_X12_85 dX12_joinsBoth_54 ?_
        refine lv_iload_n cx.1 cx.2.1 dX12_joinsBoth_57 rfl (lv_at hl 3 rfl) ?_
        refine z_iald cx hp (zs_12_42 u0 (kt_lt ru0 (by decide)) ru0) ru2 dX12_joinsBoth_58 hf (fun x4 rx4 hf => ?_)
        refine lv_aload_n cx.1 cx.2.1 dX12_joinsBoth_59 rfl (lv_at hl 1 rfl) ?_
        refine z_gets cx hp (T := TX12) 12 42 (u0 + 26) rfl zin_12 (by decide) (by decide) ru0 rfl fl_X12_85 dX12_joinsBoth_60 ?_
        refine lv_iload_n cx.1 cx.2.1 dX12_joinsBoth_63 rfl (lv_at hl 4 rfl) ?_
        refine z_iald cx hp (zs_12_42 u0 (kt_lt ru0 (by decide)) ru0) rx49_3 dX12_joinsBoth_64 hf (fun x5 rx5 hf => ?_)
        refine z_jn hf (fun j => ∀ (x73_3 : Int) (y73_0 : Int) (y73_1 : Int) (h : HF) (H : Heap) (locs : List Loc) (ls : Array Slot), rng x73_3 → rng y73_0 → rng y73_1 → Hp g B s h H locs → lv_has ls 5 [(0, .ref (B + u0)), (1, .int (ii u1)), (2, .int (ii u2)), (3, .int (ii x73_3))] → j x73_3 y73_0 y73_1 h = some o → W p l e (rmn 0) s m args below meth c H locs 0 0 Q (F0 m 73 ls [.int (ii y73_0), .int (ii y73_1)])) ?_ (fun j73 hj73 hf => ?_)
        · intro x73_3 y73_0 y73_1 h H locs ls rx73_3 ry73_0 ry73_1 hp hl hf
          refine z_icmp_eq cx ry73_1 ry73_0 (tgt := 78) dX12_joinsBoth_73 (by decide) hf (fun _ hf => ?_) (fun _ hf => ?_)
          · refine z_iinc cx (fun x6 => [(3, .int (ii x6)), (0, .ref (B + u0)), (1, .int (ii u1)), (2, .int (ii u2))]) dX12_joinsBoth_78 hl (k := 3) rfl (by decide) (fun _ => rfl) hf (fun x6 rx6 hf ls hl => ?_)
            refine lv_goto (tgt := 9) cx.1 cx.2.1 dX12_joinsBoth_81 (by decide) ?_
            exact ih x6 h _ _ ls rx6 hp (lv_sub hl [1, 2, 3, 0] rfl) hf
          · exact hk76  h _ _ ls  hp (lv_sub hl [] rfl) hf
        refine z_icmp_ne cx rx4 rx5 (tgt := 72) dX12_joinsBoth_65 (by decide) hf (fun _ hf => ?_) (fun _ hf => ?_)
        · refine z_iconst cx dX12_joinsBoth_68 ?_
          refine lv_goto (tgt := 73) cx.1 cx.2.1 dX12_joinsBoth_69 (by decide) ?_
          exact hj73 x49_3 1 y49_0 h _ _ ls rx49_3 (by decide) ry49_0 hp (lv_sub hl [1, 2, 3, 4] rfl) hf
        · refine z_iconst cx dX12_joinsBoth_72 ?_
          exact hj73 x49_3 0 y49_0 h _ _ ls rx49_3 (by decide) ry49_0 hp (lv_sub hl [1, 2, 3, 4] rfl) hf
      refine z_jn hf (fun j => ∀ (x48_3 : Int) (h : HF) (H : Heap) (locs : List Loc) (ls : Array Slot), rng x48_3 → Hp g B s h H locs → lv_has ls 5 [(0, .ref (B + u0)), (1, .int (ii u1)), (2, .int (ii u2)), (3, .int (ii x48_3))] → j x48_3 h = some o → W p l e (rmn 0) s m args below meth c H locs 0 0 Q (F0 m 48 ls [])) ?_ (fun j48 hj48 hf => ?_)
      · intro x48_3 h H locs ls rx48_3 hp hl hf
        refine z_iconst cx dX12_joinsBoth_48 ?_
        exact hj49 x48_3 0 h _ _ ls rx48_3 (by decide) hp (lv_sub hl [0, 1, 2, 3] rfl) hf
      refine z_icmp_ne cx rx2 rx3 (tgt := 48) dX12_joinsBoth_26 (by decide) hf (fun _ hf => ?_) (fun _ hf => ?_)
      · refine lv_aload_n cx.1 cx.2.1 dX12_joinsBoth_29 rfl (lv_at hl 0 rfl) ?_
        refine z_gets cx hp (T := TX12) 12 45 (u0 + 28) rfl zin_12 (by decide) (by decide) ru0 rfl fl_X12_91 dX12_joinsBoth_30 ?_
        refine lv_iload_n cx.1 cx.2.1 dX12_joinsBoth_33 rfl (lv_at hl 2 rfl) ?_
        refine z_iald cx hp (zs_12_45 u0 (kt_lt ru0 (by decide)) ru0) ru2 dX12_joinsBoth_34 hf (fun x7 rx7 hf => ?_)
        refine lv_aload_n cx.1 cx.2.1 dX12_joinsBoth_35 rfl (lv_at hl 0 rfl) ?_
        refine z_gets cx hp (T := TX12) 12 45 (u0 + 28) rfl zin_12 (by decide) (by decide) ru0 rfl fl_X12_91 dX12_joinsBoth_36 ?_
        refine lv_iload_n cx.1 cx.2.1 dX12_joinsBoth_39 rfl (lv_at hl 3 rfl) ?_
        refine z_iald cx hp (zs_12_45 u0 (kt_lt ru0 (by decide)) ru0) rv3 dX12_joinsBoth_40 hf (fun x8 rx8 hf => ?_)
        refine z_icmp_ne cx rx7 rx8 (tgt := 48) dX12_joinsBoth_41 (by decide) hf (fun _ hf => ?_) (fun _ hf => ?_)
        · refine z_iconst cx dX12_joinsBoth_44 ?_
          refine lv_goto (tgt := 49) cx.1 cx.2.1 dX12_joinsBoth_45 (by decide) ?_
          exact hj49 v3 1 h _ _ ls rv3 (by decide) hp (lv_sub hl [0, 1, 2, 3] rfl) hf
        · exact hj48 v3 h _ _ ls rv3 hp (lv_sub hl [0, 1, 2, 3] rfl) hf
      · exact hj48 v3 h _ _ ls rv3 hp (lv_sub hl [0, 1, 2, 3] rfl) hf
    · exact hk84 u2 h _ _ ls ru2 hp (lv_sub hl [0, 1, 2] rfl) hf
def LX12_joinsBoth_2 (F : Nat) (u0 : Nat) (u1 : Int) (k90 : HF → RO) (k76 : HF → RO) : Nat → Int → HF → RO
  | 0, _, _ => none
  | n + 1, v2, h =>
    if v2 < u1 then (
      zjn (fun (x84_2 : Int) (h : HF) => (
        zlet (wr (x84_2 + 1)) fun x1 =>
        LX12_joinsBoth_2 F u0 u1 k90 k76 n x1 h
      )) fun j84 =>
      LX12_joinsBoth_9 F u0 u1 v2 j84 k76 F 0 h
    ) else (
      k90  h
    )
set_option maxHeartbeats 4000000 in
set_option maxRecDepth 100000 in
theorem wX12_joinsBoth_2 {p : Program} {l : Launch} {e : Env} {s : State} {m : MethodId} {args : Array Value} {below : List Frame} {meth : Method} {c : Code} {Q : State → Prop} {g : zG} {B : Nat} {o : Int × HF} (F : Nat) (cx : Cx p s m args meth c cX12_joinsBoth 5 RX12 (some .boolean) g B) (u0 : Nat) (ru0 : kt u0 = 15) (u1 : Int) (ru1 : rng u1) (k90 : HF → RO) (hk90 : ∀  (h : HF) (H : Heap) (locs : List Loc) (ls : Array Slot), Hp g B s h H locs → lv_has ls 5 [] → k90  h = some o → W p l e (rmn 0) s m args below meth c H locs 0 0 Q (F0 m 90 ls [])) (k76 : HF → RO) (hk76 : ∀  (h : HF) (H : Heap) (locs : List Loc) (ls : Array Slot), Hp g B s h H locs → lv_has ls 5 [] → k76  h = some o → W p l e (rmn 0) s m args below meth c H locs 0 0 Q (F0 m 76 ls [])) : ∀ (n : Nat) (v2 : Int) (h : HF) (H : Heap) (locs : List Loc) (ls : Array Slot), rng v2 → Hp g B s h H locs → lv_has ls 5 [(0, .ref (B + u0)), (1, .int (ii u1)), (2, .int (ii v2))] → LX12_joinsBoth_2 F u0 u1 k90 k76 n v2 h = some o → W p l e (rmn 0) s m args below meth c H locs 0 0 Q (F0 m 2 ls []) := by
  intro n
  induction n with
  | zero =>
    intro v2 h H locs ls rv2 hp hl hf
    cases hf
  | succ n ih =>
    intro v2 h H locs ls rv2 hp hl hf
    rw [LX12_joinsBoth_2] at hf
    refine lv_iload_n cx.1 cx.2.1 dX12_joinsBoth_2 rfl (lv_at hl 2 rfl) ?_
    refine lv_iload_n cx.1 cx.2.1 dX12_joinsBoth_3 rfl (lv_at hl 1 rfl) ?_
    refine z_icmp_ge cx rv2 ru1 (tgt := 90) dX12_joinsBoth_4 (by decide) hf (fun _ hf => ?_) (fun _ hf => ?_)
    · refine z_iconst cx dX12_joinsBoth_7 ?_
      refine lv_istore_n (lv' := [(3, .int (ii 0)), (0, .ref (B + u0)), (1, .int (ii u1)), (2, .int (ii v2))]) cx.1 cx.2.1 dX12_joinsBoth_8 rfl hl (by decide) rfl (fun ls hl => ?_)
      refine z_jn hf (fun j => ∀ (x84_2 : Int) (h : HF) (H : Heap) (locs : List Loc) (ls : Array Slot), rng x84_2 → Hp g B s h H locs → lv_has ls 5 [(0, .ref (B + u0)), (1, .int (ii u1)), (2, .int (ii x84_2))] → j x84_2 h = some o → W p l e (rmn 0) s m args below meth c H locs 0 0 Q (F0 m 84 ls [])) ?_ (fun j84 hj84 hf => ?_)
      · intro x84_2 h H locs ls rx84_2 hp hl hf
        refine z_iinc cx (fun x1 => [(2, .int (ii x1)), (0, .ref (B + u0)), (1, .int (ii u1))]) dX12_joinsBoth_84 hl (k := 2) rfl (by decide) (fun _ => rfl) hf (fun x1 rx1 hf ls hl => ?_)
        refine lv_goto (tgt := 2) cx.1 cx.2.1 dX12_joinsBoth_87 (by decide) ?_
        exact ih x1 h _ _ ls rx1 hp (lv_sub hl [1, 2, 0] rfl) hf
      exact wX12_joinsBoth_9 F cx u0 ru0 u1 ru1 v2 rv2 j84 hj84 k76 hk76 F 0 h _ _ ls (by decide) hp (lv_sub hl [1, 2, 3, 0] rfl) hf
    · exact hk90  h _ _ ls  hp (lv_sub hl [] rfl) hf
def fX12_joinsBoth (F : Nat) (a0 : Nat) (a1 : Int) (h : HF) : RO :=
  zjn (fun  (h : HF) => (
    zrz 1 h
  )) fun j90 =>
  zjn (fun  (h : HF) => (
    zrz 0 h
  )) fun j76 =>
  LX12_joinsBoth_2 F a0 a1 j90 j76 F 0 h
set_option maxHeartbeats 4000000 in
set_option maxRecDepth 100000 in
theorem mX12_joinsBoth (F : Nat) (l : Launch) (g : zG) (B : Nat) (h : HF) (a0 : Nat) (a1 : Int) (ra0 : kt a0 = 15) (ra1 : rng a1) : CTi l g B yX12_joinsBoth cX12_joinsBoth 5 (some .boolean) 0 [.ref (B + a0), .int (ii a1)] h (fX12_joinsBoth F a0 a1 h) := by
  refine z_enterI (by decide) rfl (Nat.le_of_ble_eq_true rfl) ?_
  intro p e s m args below meth c ls o Q cx hp hl hf hQ
  have hl : lv_has ls 5 [(0, .ref (B + a0)), (1, .int (ii a1))] := hl
  unfold fX12_joinsBoth at hf
  refine z_iconst cx dX12_joinsBoth_0 ?_
  refine lv_istore_n (lv' := [(2, .int (ii 0)), (0, .ref (B + a0)), (1, .int (ii a1))]) cx.1 cx.2.1 dX12_joinsBoth_1 rfl hl (by decide) rfl (fun ls hl => ?_)
  refine z_jn hf (fun j => ∀  (h : HF) (H : Heap) (locs : List Loc) (ls : Array Slot), Hp g B s h H locs → lv_has ls 5 [] → j  h = some o → W p l e (rmn 0) s m args below meth c H locs 0 0 Q (F0 m 90 ls [])) ?_ (fun j90 hj90 hf => ?_)
  · intro  h H locs ls  hp hl hf
    refine z_iconst cx dX12_joinsBoth_90 ?_
    rw [hQ]; exact z_zret cx hp dX12_joinsBoth_91 hf
  refine z_jn hf (fun j => ∀  (h : HF) (H : Heap) (locs : List Loc) (ls : Array Slot), Hp g B s h H locs → lv_has ls 5 [] → j  h = some o → W p l e (rmn 0) s m args below meth c H locs 0 0 Q (F0 m 76 ls [])) ?_ (fun j76 hj76 hf => ?_)
  · intro  h H locs ls  hp hl hf
    refine z_iconst cx dX12_joinsBoth_76 ?_
    rw [hQ]; exact z_zret cx hp dX12_joinsBoth_77 hf
  exact wX12_joinsBoth_2 F cx a0 ra0 a1 ra1 j90 hj90 j76 hj76 F 0 h _ _ ls (by decide) hp (lv_sub hl [1, 2, 0] rfl) hf
theorem dX12_bound_0 : decode cX12_bound 0 = .ok (.aload_n 0, 1) := by decide +kernel
theorem dX12_bound_1 : decode cX12_bound 1 = .ok (.iconst 0, 1) := by decide +kernel
theorem dX12_bound_2 : decode cX12_bound 2 = .ok (.putfield 115, 3) := by decide +kernel
theorem dX12_bound_5 : decode cX12_bound 5 = .ok (.aload_n 0, 1) := by decide +kernel
theorem dX12_bound_6 : decode cX12_bound 6 = .ok (.iload_n 1, 1) := by decide +kernel
theorem dX12_bound_7 : decode cX12_bound 7 = .ok (.invokevirtual 168, 3) := by decide +kernel
theorem dX12_bound_10 : decode cX12_bound 10 = .ok (.istore 5, 2) := by decide +kernel
theorem dX12_bound_12 : decode cX12_bound 12 = .ok (.iload 5, 2) := by decide +kernel
theorem dX12_bound_14 : decode cX12_bound 14 = .ok (.ifCond .eq 6, 3) := by decide +kernel
theorem dX12_bound_17 : decode cX12_bound 17 = .ok (.iload 5, 2) := by decide +kernel
theorem dX12_bound_19 : decode cX12_bound 19 = .ok (.ireturn, 1) := by decide +kernel
theorem dX12_bound_20 : decode cX12_bound 20 = .ok (.aload_n 0, 1) := by decide +kernel
theorem dX12_bound_21 : decode cX12_bound 21 = .ok (.getfield 16, 3) := by decide +kernel
theorem dX12_bound_24 : decode cX12_bound 24 = .ok (.iload_n 1, 1) := by decide +kernel
theorem dX12_bound_25 : decode cX12_bound 25 = .ok (.iaload, 1) := by decide +kernel
theorem dX12_bound_26 : decode cX12_bound 26 = .ok (.istore 6, 2) := by decide +kernel
theorem dX12_bound_28 : decode cX12_bound 28 = .ok (.iload_n 2, 1) := by decide +kernel
theorem dX12_bound_29 : decode cX12_bound 29 = .ok (.ifCond .lt 16, 3) := by decide +kernel
theorem dX12_bound_32 : decode cX12_bound 32 = .ok (.iload_n 3, 1) := by decide +kernel
theorem dX12_bound_33 : decode cX12_bound 33 = .ok (.ifCond .lt 12, 3) := by decide +kernel
theorem dX12_bound_36 : decode cX12_bound 36 = .ok (.aload_n 0, 1) := by decide +kernel
theorem dX12_bound_37 : decode cX12_bound 37 = .ok (.iload_n 1, 1) := by decide +kernel
theorem dX12_bound_38 : decode cX12_bound 38 = .ok (.iload_n 2, 1) := by decide +kernel
theorem dX12_bound_39 : decode cX12_bound 39 = .ok (.invokevirtual 326, 3) := by decide +kernel
theorem dX12_bound_42 : decode cX12_bound 42 = .ok (.ifCond .ne 6, 3) := by decide +kernel
theorem dX12_bound_48 : decode cX12_bound 48 = .ok (.aload_n 0, 1) := by decide +kernel
theorem dX12_bound_49 : decode cX12_bound 49 = .ok (.aload_n 0, 1) := by decide +kernel
theorem dX12_bound_50 : decode cX12_bound 50 = .ok (.getfield 88, 3) := by decide +kernel
theorem dX12_bound_53 : decode cX12_bound 53 = .ok (.invokevirtual 336, 3) := by decide +kernel
theorem dX12_bound_56 : decode cX12_bound 56 = .ok (.aload_n 0, 1) := by decide +kernel
theorem dX12_bound_57 : decode cX12_bound 57 = .ok (.iload_n 1, 1) := by decide +kernel
theorem dX12_bound_58 : decode cX12_bound 58 = .ok (.iload_n 3, 1) := by decide +kernel
theorem dX12_bound_59 : decode cX12_bound 59 = .ok (.invokevirtual 326, 3) := by decide +kernel
theorem dX12_bound_62 : decode cX12_bound 62 = .ok (.ifCond .ne 6, 3) := by decide +kernel
theorem dX12_bound_65 : decode cX12_bound 65 = .ok (.bipush (-3), 2) := by decide +kernel
theorem dX12_bound_67 : decode cX12_bound 67 = .ok (.ireturn, 1) := by decide +kernel
theorem dX12_bound_68 : decode cX12_bound 68 = .ok (.aload_n 0, 1) := by decide +kernel
theorem dX12_bound_69 : decode cX12_bound 69 = .ok (.aload_n 0, 1) := by decide +kernel
theorem dX12_bound_70 : decode cX12_bound 70 = .ok (.getfield 91, 3) := by decide +kernel
theorem dX12_bound_73 : decode cX12_bound 73 = .ok (.invokevirtual 336, 3) := by decide +kernel
theorem dX12_bound_76 : decode cX12_bound 76 = .ok (.iconst 0, 1) := by decide +kernel
theorem dX12_bound_77 : decode cX12_bound 77 = .ok (.istore 7, 2) := by decide +kernel
theorem dX12_bound_79 : decode cX12_bound 79 = .ok (.iconst (-1), 1) := by decide +kernel
theorem dX12_bound_80 : decode cX12_bound 80 = .ok (.istore 8, 2) := by decide +kernel
theorem dX12_bound_82 : decode cX12_bound 82 = .ok (.iconst 0, 1) := by decide +kernel
theorem dX12_bound_83 : decode cX12_bound 83 = .ok (.istore 9, 2) := by decide +kernel
theorem dX12_bound_85 : decode cX12_bound 85 = .ok (.aload_n 0, 1) := by decide +kernel
theorem dX12_bound_86 : decode cX12_bound 86 = .ok (.invokevirtual 314, 3) := by decide +kernel
theorem dX12_bound_89 : decode cX12_bound 89 = .ok (.iconst 1, 1) := by decide +kernel
theorem dX12_bound_90 : decode cX12_bound 90 = .ok (.istore 10, 2) := by decide +kernel
theorem dX12_bound_92 : decode cX12_bound 92 = .ok (.iload 10, 2) := by decide +kernel
theorem dX12_bound_94 : decode cX12_bound 94 = .ok (.ifCond .eq 109, 3) := by decide +kernel
theorem dX12_bound_97 : decode cX12_bound 97 = .ok (.aload_n 0, 1) := by decide +kernel
theorem dX12_bound_98 : decode cX12_bound 98 = .ok (.iload 6, 2) := by decide +kernel
theorem dX12_bound_100 : decode cX12_bound 100 = .ok (.invokevirtual 317, 3) := by decide +kernel
theorem dX12_bound_103 : decode cX12_bound 103 = .ok (.ifCond .eq 89, 3) := by decide +kernel
theorem dX12_bound_106 : decode cX12_bound 106 = .ok (.aload_n 0, 1) := by decide +kernel
theorem dX12_bound_107 : decode cX12_bound 107 = .ok (.iload_n 1, 1) := by decide +kernel
theorem dX12_bound_108 : decode cX12_bound 108 = .ok (.invokevirtual 320, 3) := by decide +kernel
theorem dX12_bound_111 : decode cX12_bound 111 = .ok (.ifCond .eq 81, 3) := by decide +kernel
theorem dX12_bound_114 : decode cX12_bound 114 = .ok (.iload 4, 2) := by decide +kernel
theorem dX12_bound_116 : decode cX12_bound 116 = .ok (.ifCond .eq 37, 3) := by decide +kernel
theorem dX12_bound_119 : decode cX12_bound 119 = .ok (.aload_n 0, 1) := by decide +kernel
theorem dX12_bound_120 : decode cX12_bound 120 = .ok (.aload_n 0, 1) := by decide +kernel
theorem dX12_bound_121 : decode cX12_bound 121 = .ok (.getfield 88, 3) := by decide +kernel
theorem dX12_bound_124 : decode cX12_bound 124 = .ok (.iload 6, 2) := by decide +kernel
theorem dX12_bound_126 : decode cX12_bound 126 = .ok (.invokevirtual 340, 3) := by decide +kernel
theorem dX12_bound_129 : decode cX12_bound 129 = .ok (.ifCond .eq 20, 3) := by decide +kernel
theorem dX12_bound_132 : decode cX12_bound 132 = .ok (.aload_n 0, 1) := by decide +kernel
theorem dX12_bound_133 : decode cX12_bound 133 = .ok (.aload_n 0, 1) := by decide +kernel
theorem dX12_bound_134 : decode cX12_bound 134 = .ok (.getfield 91, 3) := by decide +kernel
theorem dX12_bound_137 : decode cX12_bound 137 = .ok (.iload 6, 2) := by decide +kernel
theorem dX12_bound_139 : decode cX12_bound 139 = .ok (.invokevirtual 340, 3) := by decide +kernel
theorem dX12_bound_142 : decode cX12_bound 142 = .ok (.ifCond .eq 7, 3) := by decide +kernel
theorem dX12_bound_145 : decode cX12_bound 145 = .ok (.iconst 1, 1) := by decide +kernel
theorem dX12_bound_146 : decode cX12_bound 146 = .ok (.goto 13, 3) := by decide +kernel
theorem dX12_bound_149 : decode cX12_bound 149 = .ok (.iconst 0, 1) := by decide +kernel
theorem dX12_bound_150 : decode cX12_bound 150 = .ok (.goto 9, 3) := by decide +kernel
theorem dX12_bound_153 : decode cX12_bound 153 = .ok (.aload_n 0, 1) := by decide +kernel
theorem dX12_bound_154 : decode cX12_bound 154 = .ok (.iload 6, 2) := by decide +kernel
theorem dX12_bound_156 : decode cX12_bound 156 = .ok (.invokevirtual 344, 3) := by decide +kernel
theorem dX12_bound_159 : decode cX12_bound 159 = .ok (.istore 11, 2) := by decide +kernel
theorem dX12_bound_161 : decode cX12_bound 161 = .ok (.iload 11, 2) := by decide +kernel
theorem dX12_bound_163 : decode cX12_bound 163 = .ok (.ifCond .eq 26, 3) := by decide +kernel
theorem dX12_bound_166 : decode cX12_bound 166 = .ok (.aload_n 0, 1) := by decide +kernel
theorem dX12_bound_167 : decode cX12_bound 167 = .ok (.iload 6, 2) := by decide +kernel
theorem dX12_bound_169 : decode cX12_bound 169 = .ok (.invokevirtual 333, 3) := by decide +kernel
theorem dX12_bound_172 : decode cX12_bound 172 = .ok (.iload 9, 2) := by decide +kernel
theorem dX12_bound_174 : decode cX12_bound 174 = .ok (.if_icmp .le 15, 3) := by decide +kernel
theorem dX12_bound_177 : decode cX12_bound 177 = .ok (.aload_n 0, 1) := by decide +kernel
theorem dX12_bound_178 : decode cX12_bound 178 = .ok (.iload 6, 2) := by decide +kernel
theorem dX12_bound_180 : decode cX12_bound 180 = .ok (.invokevirtual 333, 3) := by decide +kernel
theorem dX12_bound_183 : decode cX12_bound 183 = .ok (.istore 9, 2) := by decide +kernel
theorem dX12_bound_185 : decode cX12_bound 185 = .ok (.iload 7, 2) := by decide +kernel
theorem dX12_bound_187 : decode cX12_bound 187 = .ok (.istore 8, 2) := by decide +kernel
theorem dX12_bound_189 : decode cX12_bound 189 = .ok (.iinc 7 1, 3) := by decide +kernel
theorem dX12_bound_192 : decode cX12_bound 192 = .ok (.aload_n 0, 1) := by decide +kernel
theorem dX12_bound_193 : decode cX12_bound 193 = .ok (.iload 6, 2) := by decide +kernel
theorem dX12_bound_195 : decode cX12_bound 195 = .ok (.invokevirtual 323, 3) := by decide +kernel
theorem dX12_bound_198 : decode cX12_bound 198 = .ok (.istore 10, 2) := by decide +kernel
theorem dX12_bound_200 : decode cX12_bound 200 = .ok (.goto (-108), 3) := by decide +kernel
theorem dX12_bound_203 : decode cX12_bound 203 = .ok (.iload 8, 2) := by decide +kernel
theorem dX12_bound_205 : decode cX12_bound 205 = .ok (.ireturn, 1) := by decide +kernel
theorem dX12_bound_45 : decode cX12_bound 45 = .ok (.bipush (-3), 2) := by decide +kernel
theorem dX12_bound_47 : decode cX12_bound 47 = .ok (.ireturn, 1) := by decide +kernel
def LX12_bound_92 (F : Nat) (u0 : Nat) (u1 : Int) (u4 : Int) (u6 : Int) (k203 : Int → HF → RO) : Nat → Int → Int → Int → Int → HF → RO
  | 0, _, _, _, _, _ => none
  | n + 1, v7, v8, v9, v10, h =>
    if v10 = 0 then (
      k203 v8 h
    ) else (
      zbd (fX12_isLine F u0 u6 h) fun r8 h =>
      zjn (fun (x192_7 : Int) (x192_8 : Int) (x192_9 : Int) (h : HF) => (
        zbd (fX12_nextLine F u0 u6 h) fun r9 h =>
        LX12_bound_92 F u0 u1 u4 u6 k203 n x192_7 x192_8 x192_9 r9 h
      )) fun j192 =>
      if r8 = 0 then (
        j192 v7 v8 v9 h
      ) else (
        zbd (fX12_agrees F u0 u1 h) fun r10 h =>
        if r10 = 0 then (
          j192 v7 v8 v9 h
        ) else (
          zjn (fun (x159_7 : Int) (x159_8 : Int) (x159_9 : Int) (y159_0 : Int) (h : HF) => (
            zjn (fun (x189_7 : Int) (x189_8 : Int) (x189_9 : Int) (h : HF) => (
              zlet (wr (x189_7 + 1)) fun x11 =>
              j192 x11 x189_8 x189_9 h
            )) fun j189 =>
            if y159_0 = 0 then (
              j189 x159_7 x159_8 x159_9 h
            ) else (
              zbd (fX12_classes F u0 u6 h) fun r12 h =>
              if x159_9 < r12 then (
                zbd (fX12_classes F u0 u6 h) fun r13 h =>
                j189 x159_7 x159_7 r13 h
              ) else (
                j189 x159_7 x159_8 x159_9 h
              )
            )
          )) fun j159 =>
          if u4 = 0 then (
            zbd (fX12_joinsBoth F u0 u6 h) fun r14 h =>
            j159 v7 v8 v9 r14 h
          ) else (
            zbd (fX12_joins F u0 (u0 + 27) u6 h) fun r15 h =>
            zjn (fun (x149_7 : Int) (x149_8 : Int) (x149_9 : Int) (h : HF) => (
              j159 x149_7 x149_8 x149_9 0 h
            )) fun j149 =>
            if r15 = 0 then (
              j149 v7 v8 v9 h
            ) else (
              zbd (fX12_joins F u0 (u0 + 28) u6 h) fun r16 h =>
              if r16 = 0 then (
                j149 v7 v8 v9 h
              ) else (
                j159 v7 v8 v9 1 h
              )
            )
          )
        )
      )
    )
set_option maxHeartbeats 4000000 in
set_option maxRecDepth 100000 in
theorem wX12_bound_92 {p : Program} {l : Launch} {e : Env} {s : State} {m : MethodId} {args : Array Value} {below : List Frame} {meth : Method} {c : Code} {Q : State → Prop} {g : zG} {B : Nat} {o : Int × HF} (F : Nat) (cx : Cx p s m args meth c cX12_bound 12 RX12 (some .int) g B) (u0 : Nat) (ru0 : kt u0 = 15) (u1 : Int) (ru1 : rng u1) (u4 : Int) (ru4 : rng u4) (u6 : Int) (ru6 : rng u6) (k203 : Int → HF → RO) (hk203 : ∀ (x8 : Int) (h : HF) (H : Heap) (locs : List Loc) (ls : Array Slot), rng x8 → Hp g B s h H locs → lv_has ls 12 [(8, .int (ii x8))] → k203 x8 h = some o → W p l e (rmn 5) s m args below meth c H locs 0 0 Q (F0 m 203 ls [])) : ∀ (n : Nat) (v7 : Int) (v8 : Int) (v9 : Int) (v10 : Int) (h : HF) (H : Heap) (locs : List Loc) (ls : Array Slot), rng v7 → rng v8 → rng v9 → rng v10 → Hp g B s h H locs → lv_has ls 12 [(0, .ref (B + u0)), (1, .int (ii u1)), (4, .int (ii u4)), (6, .int (ii u6)), (7, .int (ii v7)), (8, .int (ii v8)), (9, .int (ii v9)), (10, .int (ii v10))] → LX12_bound_92 F u0 u1 u4 u6 k203 n v7 v8 v9 v10 h = some o → W p l e (rmn 5) s m args below meth c H locs 0 0 Q (F0 m 92 ls []) := by
  intro n
  induction n with
  | zero =>
    intro v7 v8 v9 v10 h H locs ls rv7 rv8 rv9 rv10 hp hl hf
    cases hf
  | succ n ih =>
    intro v7 v8 v9 v10 h H locs ls rv7 rv8 rv9 rv10 hp hl hf
    rw [LX12_bound_92] at hf
    refine lv_iload cx.1 cx.2.1 dX12_bound_92 (lv_at hl 7 rfl) ?_
    refine z_if_eq cx rv10 (tgt := 203) dX12_bound_94 (by decide) hf (fun _ hf => ?_) (fun _ hf => ?_)
    · exact hk203 v8 h _ _ ls rv8 hp (lv_sub hl [5] rfl) hf
    · refine lv_aload_n cx.1 cx.2.1 dX12_bound_97 rfl (lv_at hl 0 rfl) ?_
      refine lv_iload cx.1 cx.2.1 dX12_bound_98 (lv_at hl 3 rfl) ?_
      refine z_ci cx hp (fun o' hx => zrunV (n := 5) (As := [.int (ii u6)]) (rest := []) cx hp (mX12_isLine F l g B h u0 u6 ru0 ru6 o' hx) 12 ru0 (by decide) rfl vw_X12_isLine ml_X12_317 (by decide) rfl hl.1 rfl (Nat.le_of_ble_eq_true rfl) dX12_bound_100) hf (fun r8 h H locs rr8 hp hf => ?_)
      refine z_jn hf (fun j => ∀ (x192_7 : Int) (x192_8 : Int) (x192_9 : Int) (h : HF) (H : Heap) (locs : List Loc) (ls : Array Slot), rng x192_7 → rng x192_8 → rng x192_9 → Hp g B s h H locs → lv_has ls 12 [(0, .ref (B + u0)), (1, .int (ii u1)), (4, .int (ii u4)), (6, .int (ii u6)), (7, .int (ii x192_7)), (8, .int (ii x192_8)), (9, .int (ii x192_9))] → j x192_7 x192_8 x192_9 h = some o → W p l e (rmn 5) s m args below meth c H locs 0 0 Q (F0 m 192 ls [])) ?_ (fun j192 hj192 hf => ?_)
      · intro x192_7 x192_8 x192_9 h H locs ls rx192_7 rx192_8 rx192_9 hp hl hf
        refine lv_aload_n cx.1 cx.2.1 dX12_bound_192 rfl (lv_at hl 0 rfl) ?_
        refine lv_iload cx.1 cx.2.1 dX12_bound_193 (lv_at hl 3 rfl) ?_
        refine z_ci cx hp (fun o' hx => zrunV (n := 5) (As := [.int (ii u6)]) (rest := []) cx hp (mX12_nextLine F l g B h u0 u6 ru0 ru6 o' hx) 12 ru0 (by decide) rfl vw_X12_nextLine ml_X12_323 (by decide) rfl hl.1 rfl (Nat.le_of_ble_eq_true rfl) dX12_bound_195) hf (fun r9 h H locs rr9 hp hf => ?_)
        refine lv_istore (lv' := [(10, .int (ii r9)), (0, .ref (B + u0)), (1, .int (ii u1)), (4, .int (ii u4)), (6, .int (ii u6)), (7, .int (ii x192_7)), (8, .int (ii x192_8)), (9, .int (ii x192_9))]) cx.1 cx.2.1 dX12_bound_198 hl (by decide) rfl (fun ls hl => ?_)
        refine lv_goto (tgt := 92) cx.1 cx.2.1 dX12_bound_200 (by decide) ?_
        exact ih x192_7 x192_8 x192_9 r9 h _ _ ls rx192_7 rx192_8 rx192_9 rr9 hp (lv_sub hl [1, 2, 3, 4, 5, 6, 7, 0] rfl) hf
      refine z_if_eq cx rr8 (tgt := 192) dX12_bound_103 (by decide) hf (fun _ hf => ?_) (fun _ hf => ?_)
      · exact hj192 v7 v8 v9 h _ _ ls rv7 rv8 rv9 hp (lv_sub hl [0, 1, 2, 3, 4, 5, 6] rfl) hf
      · refine lv_aload_n cx.1 cx.2.1 dX12_bound_106 rfl (lv_at hl 0 rfl) ?_
        refine lv_iload_n cx.1 cx.2.1 dX12_bound_107 rfl (lv_at hl 1 rfl) ?_
        refine z_ci cx hp (fun o' hx => zrunV (n := 5) (As := [.int (ii u1)]) (rest := []) cx hp (mX12_agrees F l g B h u0 u1 ru0 ru1 o' hx) 12 ru0 (by decide) rfl vw_X12_agrees ml_X12_320 (by decide) rfl hl.1 rfl (Nat.le_of_ble_eq_true rfl) dX12_bound_108) hf (fun r10 h H locs rr10 hp hf => ?_)
        refine z_if_eq cx rr10 (tgt := 192) dX12_bound_111 (by decide) hf (fun _ hf => ?_) (fun _ hf => ?_)
        · exact hj192 v7 v8 v9 h _ _ ls rv7 rv8 rv9 hp (lv_sub hl [0, 1, 2, 3, 4, 5, 6] rfl) hf
        · refine lv_iload cx.1 cx.2.1 dX12_bound_114 (lv_at hl 2 rfl) ?_
          refine z_jn hf (fun j => ∀ (x159_7 : Int) (x159_8 : Int) (x159_9 : Int) (y159_0 : Int) (h : HF) (H : Heap) (locs : List Loc) (ls : Array Slot), rng x159_7 → rng x159_8 → rng x159_9 → rng y159_0 → Hp g B s h H locs → lv_has ls 12 [(0, .ref (B + u0)), (1, .int (ii u1)), (4, .int (ii u4)), (6, .int (ii u6)), (7, .int (ii x159_7)), (8, .int (ii x159_8)), (9, .int (ii x159_9))] → j x159_7 x159_8 x159_9 y159_0 h = some o → W p l e (rmn 5) s m args below meth c H locs 0 0 Q (F0 m 159 ls [.int (ii y159_0)])) ?_ (fun j159 hj159 hf => ?_)
          · intro x159_7 x159_8 x159_9 y159_0 h H locs ls rx159_7 rx159_8 rx159_9 ry159_0 hp hl hf
            refine lv_istore (lv' := [(11, .int (ii y159_0)), (0, .ref (B + u0)), (1, .int (ii u1)), (4, .int (ii u4)), (6, .int (ii u6)), (7, .int (ii x159_7)), (8, .int (ii x159_8)), (9, .int (ii x159_9))]) cx.1 cx.2.1 dX12_bound_159 hl (by decide) rfl (fun ls hl => ?_)
            refine lv_iload cx.1 cx.2.1 dX12_bound_161 (lv_at hl 0 rfl) ?_
            refine z_jn hf (fun j => ∀ (x189_7 : Int) (x189_8 : Int) (x189_9 : Int) (h : HF) (H : Heap) (locs : List Loc) (ls : Array Slot), rng x189_7 → rng x189_8 → rng x189_9 → Hp g B s h H locs → lv_has ls 12 [(0, .ref (B + u0)), (1, .int (ii u1)), (4, .int (ii u4)), (6, .int (ii u6)), (7, .int (ii x189_7)), (8, .int (ii x189_8)), (9, .int (ii x189_9))] → j x189_7 x189_8 x189_9 h = some o → W p l e (rmn 5) s m args below meth c H locs 0 0 Q (F0 m 189 ls [])) ?_ (fun j189 hj189 hf => ?_)
            · intro x189_7 x189_8 x189_9 h H locs ls rx189_7 rx189_8 rx189_9 hp hl hf
              refine z_iinc cx (fun x11 => [(7, .int (ii x11)), (0, .ref (B + u0)), (1, .int (ii u1)), (4, .int (ii u4)), (6, .int (ii u6)), (8, .int (ii x189_8)), (9, .int (ii x189_9))]) dX12_bound_189 hl (k := 4) rfl (by decide) (fun _ => rfl) hf (fun x11 rx11 hf ls hl => ?_)
              exact hj192 x11 x189_8 x189_9 h _ _ ls rx11 rx189_8 rx189_9 hp (lv_sub hl [1, 2, 3, 4, 0, 5, 6] rfl) hf
            refine z_if_eq cx ry159_0 (tgt := 189) dX12_bound_163 (by decide) hf (fun _ hf => ?_) (fun _ hf => ?_)
            · exact hj189 x159_7 x159_8 x159_9 h _ _ ls rx159_7 rx159_8 rx159_9 hp (lv_sub hl [1, 2, 3, 4, 5, 6, 7] rfl) hf
            · refine lv_aload_n cx.1 cx.2.1 dX12_bound_166 rfl (lv_at hl 1 rfl) ?_
              refine lv_iload cx.1 cx.2.1 dX12_bound_167 (lv_at hl 4 rfl) ?_
              refine z_ci cx hp (fun o' hx => zrunV (n := 5) (As := [.int (ii u6)]) (rest := []) cx hp (mX12_classes F l g B h u0 u6 ru0 ru6 o' hx) 12 ru0 (by decide) rfl vw_X12_classes ml_X12_333 (by decide) rfl hl.1 rfl (Nat.le_of_ble_eq_true rfl) dX12_bound_169) hf (fun r12 h H locs rr12 hp hf => ?_)
              refine lv_iload cx.1 cx.2.1 dX12_bound_172 (lv_at hl 7 rfl) ?_
              refine z_icmp_le cx rr12 rx159_9 (tgt := 189) dX12_bound_174 (by decide) hf (fun _ hf => ?_) (fun _ hf => ?_)
              · refine lv_aload_n cx.1 cx.2.1 dX12_bound_177 rfl (lv_at hl 1 rfl) ?_
                refine lv_iload cx.1 cx.2.1 dX12_bound_178 (lv_at hl 4 rfl) ?_
                refine z_ci cx hp (fun o' hx => zrunV (n := 5) (As := [.int (ii u6)]) (rest := []) cx hp (mX12_classes F l g B h u0 u6 ru0 ru6 o' hx) 12 ru0 (by decide) rfl vw_X12_classes ml_X12_333 (by decide) rfl hl.1 rfl (Nat.le_of_ble_eq_true rfl) dX12_bound_180) hf (fun r13 h H locs rr13 hp hf => ?_)
                refine lv_istore (lv' := [(9, .int (ii r13)), (11, .int (ii y159_0)), (0, .ref (B + u0)), (1, .int (ii u1)), (4, .int (ii u4)), (6, .int (ii u6)), (7, .int (ii x159_7)), (8, .int (ii x159_8))]) cx.1 cx.2.1 dX12_bound_183 hl (by decide) rfl (fun ls hl => ?_)
                refine lv_iload cx.1 cx.2.1 dX12_bound_185 (lv_at hl 6 rfl) ?_
                refine lv_istore (lv' := [(8, .int (ii x159_7)), (9, .int (ii r13)), (11, .int (ii y159_0)), (0, .ref (B + u0)), (1, .int (ii u1)), (4, .int (ii u4)), (6, .int (ii u6)), (7, .int (ii x159_7))]) cx.1 cx.2.1 dX12_bound_187 hl (by decide) rfl (fun ls hl => ?_)
                exact hj189 x159_7 x159_7 r13 h _ _ ls rx159_7 rx159_7 rr13 hp (lv_sub hl [3, 4, 5, 6, 7, 0, 1] rfl) hf
              · exact hj189 x159_7 x159_8 x159_9 h _ _ ls rx159_7 rx159_8 rx159_9 hp (lv_sub hl [1, 2, 3, 4, 5, 6, 7] rfl) hf
          refine z_if_eq cx ru4 (tgt := 153) dX12_bound_116 (by decide) hf (fun _ hf => ?_) (fun _ hf => ?_)
          · refine lv_aload_n cx.1 cx.2.1 dX12_bound_153 rfl (lv_at hl 0 rfl) ?_
            refine lv_iload cx.1 cx.2.1 dX12_bound_154 (lv_at hl 3 rfl) ?_
            refine z_ci cx hp (fun o' hx => zrunV (n := 5) (As := [.int (ii u6)]) (rest := []) cx hp (mX12_joinsBoth F l g B h u0 u6 ru0 ru6 o' hx) 12 ru0 (by decide) rfl vw_X12_joinsBoth ml_X12_344 (by decide) rfl hl.1 rfl (Nat.le_of_ble_eq_true rfl) dX12_bound_156) hf (fun r14 h H locs rr14 hp hf => ?_)
            exact hj159 v7 v8 v9 r14 h _ _ ls rv7 rv8 rv9 rr14 hp (lv_sub hl [0, 1, 2, 3, 4, 5, 6] rfl) hf
          · refine lv_aload_n cx.1 cx.2.1 dX12_bound_119 rfl (lv_at hl 0 rfl) ?_
            refine lv_aload_n cx.1 cx.2.1 dX12_bound_120 rfl (lv_at hl 0 rfl) ?_
            refine z_gets cx hp (T := TX12) 12 44 (u0 + 27) rfl zin_12 (by decide) (by decide) ru0 rfl fl_X12_88 dX12_bound_121 ?_
            refine lv_iload cx.1 cx.2.1 dX12_bound_124 (lv_at hl 3 rfl) ?_
            refine z_ci cx hp (fun o' hx => zrunV (n := 5) (As := [.ref (B + (u0 + 27)), .int (ii u6)]) (rest := []) cx hp (mX12_joins F l g B h u0 (u0 + 27) u6 ru0 (zs_12_44 u0 (kt_lt ru0 (by decide)) ru0) ru6 o' hx) 12 ru0 (by decide) rfl vw_X12_joins ml_X12_340 (by decide) rfl hl.1 rfl (Nat.le_of_ble_eq_true rfl) dX12_bound_126) hf (fun r15 h H locs rr15 hp hf => ?_)
            refine z_jn hf (fun j => ∀ (x149_7 : Int) (x149_8 : Int) (x149_9 : Int) (h : HF) (H : Heap) (locs : List Loc) (ls : Array Slot), rng x149_7 → rng x149_8 → rng x149_9 → Hp g B s h H locs → lv_has ls 12 [(0, .ref (B + u0)), (1, .int (ii u1)), (4, .int (ii u4)), (6, .int (ii u6)), (7, .int (ii x149_7)), (8, .int (ii x149_8)), (9, .int (ii x149_9))] → j x149_7 x149_8 x149_9 h = some o → W p l e (rmn 5) s m args below meth c H locs 0 0 Q (F0 m 149 ls [])) ?_ (fun j149 hj149 hf => ?_)
            · intro x149_7 x149_8 x149_9 h H locs ls rx149_7 rx149_8 rx149_9 hp hl hf
              refine z_iconst cx dX12_bound_149 ?_
              refine lv_goto (tgt := 159) cx.1 cx.2.1 dX12_bound_150 (by decide) ?_
              exact hj159 x149_7 x149_8 x149_9 0 h _ _ ls rx149_7 rx149_8 rx149_9 (by decide) hp (lv_sub hl [0, 1, 2, 3, 4, 5, 6] rfl) hf
            refine z_if_eq cx rr15 (tgt := 149) dX12_bound_129 (by decide) hf (fun _ hf => ?_) (fun _ hf => ?_)
            · exact hj149 v7 v8 v9 h _ _ ls rv7 rv8 rv9 hp (lv_sub hl [0, 1, 2, 3, 4, 5, 6] rfl) hf
            · refine lv_aload_n cx.1 cx.2.1 dX12_bound_132 rfl (lv_at hl 0 rfl) ?_
              refine lv_aload_n cx.1 cx.2.1 dX12_bound_133 rfl (lv_at hl 0 rfl) ?_
              refine z_gets cx hp (T := TX12) 12 45 (u0 + 28) rfl zin_12 (by decide) (by decide) ru0 rfl fl_X12_91 dX12_bound_134 ?_
              refine lv_iload cx.1 cx.2.1 dX12_bound_137 (lv_at hl 3 rfl) ?_
              refine z_ci cx hp (fun o' hx => zrunV (n := 5) (As := [.ref (B + (u0 + 28)), .int (ii u6)]) (rest := []) cx hp (mX12_joins F l g B h u0 (u0 + 28) u6 ru0 (zs_12_45 u0 (kt_lt ru0 (by decide)) ru0) ru6 o' hx) 12 ru0 (by decide) rfl vw_X12_joins ml_X12_340 (by decide) rfl hl.1 rfl (Nat.le_of_ble_eq_true rfl) dX12_bound_139) hf (fun r16 h H locs rr16 hp hf => ?_)
              refine z_if_eq cx rr16 (tgt := 149) dX12_bound_142 (by decide) hf (fun _ hf => ?_) (fun _ hf => ?_)
              · exact hj149 v7 v8 v9 h _ _ ls rv7 rv8 rv9 hp (lv_sub hl [0, 1, 2, 3, 4, 5, 6] rfl) hf
              · refine z_iconst cx dX12_bound_145 ?_
                refine lv_goto (tgt := 159) cx.1 cx.2.1 dX12_bound_146 (by decide) ?_
                exact hj159 v7 v8 v9 1 h _ _ ls rv7 rv8 rv9 (by decide) hp (lv_sub hl [0, 1, 2, 3, 4, 5, 6] rfl) hf
def fX12_bound (F : Nat) (a0 : Nat) (a1 : Int) (a2 : Int) (a3 : Int) (a4 : Int) (h : HF) : RO :=
  zpf h a0 0 0 fun h =>
  zbd (fX12_refuse F a0 a1 h) fun r1 h =>
  if r1 = 0 then (
    zrd h (a0 + 3) a1 fun x2 =>
    zjn (fun  (h : HF) => (
      some ((-3), h)
    )) fun j45 =>
    if a2 < 0 then (
      j45  h
    ) else (
      if a3 < 0 then (
        j45  h
      ) else (
        zbd (fX12_findCongruence F a0 a1 a2 h) fun r3 h =>
        if r3 = 0 then (
          j45  h
        ) else (
          zbd (fX12_copyLine F a0 (a0 + 27) h) fun _ h =>
          zbd (fX12_findCongruence F a0 a1 a3 h) fun r5 h =>
          if r5 = 0 then (
            some ((-3), h)
          ) else (
            zbd (fX12_copyLine F a0 (a0 + 28) h) fun _ h =>
            zbd (fX12_firstLine F a0 h) fun _ h =>
            zjn (fun (x203_8 : Int) (h : HF) => (
              some (x203_8, h)
            )) fun j203 =>
            LX12_bound_92 F a0 a1 a4 x2 j203 F 0 (-1) 0 1 h
          )
        )
      )
    )
  ) else (
    some (r1, h)
  )
set_option maxHeartbeats 4000000 in
set_option maxRecDepth 100000 in
theorem mX12_bound (F : Nat) (l : Launch) (g : zG) (B : Nat) (h : HF) (a0 : Nat) (a1 : Int) (a2 : Int) (a3 : Int) (a4 : Int) (ra0 : kt a0 = 15) (ra1 : rng a1) (ra2 : rng a2) (ra3 : rng a3) (ra4 : rng a4) : CTi l g B yX12_bound cX12_bound 12 (some .int) 5 [.ref (B + a0), .int (ii a1), .int (ii a2), .int (ii a3), .int (ii a4)] h (fX12_bound F a0 a1 a2 a3 a4 h) := by
  refine z_enterI (by decide) rfl (Nat.le_of_ble_eq_true rfl) ?_
  intro p e s m args below meth c ls o Q cx hp hl hf hQ
  have hl : lv_has ls 12 [(0, .ref (B + a0)), (1, .int (ii a1)), (2, .int (ii a2)), (3, .int (ii a3)), (4, .int (ii a4))] := hl
  unfold fX12_bound at hf
  refine lv_aload_n cx.1 cx.2.1 dX12_bound_0 rfl (lv_at hl 0 rfl) ?_
  refine z_iconst cx dX12_bound_1 ?_
  refine z_puti cx hp (T := TX12) tyX12 tyX12_ok nmX12 12 0 (by decide) rfl zin_12 (by decide) (by decide) ra0 rfl rfl rfl fl_X12_115 dX12_bound_2 hf (fun h H locs hp hf => ?_)
  refine lv_aload_n cx.1 cx.2.1 dX12_bound_5 rfl (lv_at hl 0 rfl) ?_
  refine lv_iload_n cx.1 cx.2.1 dX12_bound_6 rfl (lv_at hl 1 rfl) ?_
  refine z_ci cx hp (fun o' hx => zrunV (n := 5) (As := [.int (ii a1)]) (rest := []) cx hp (mX12_refuse F l g B h a0 a1 ra0 ra1 o' hx) 12 ra0 (by decide) rfl vw_X12_refuse ml_X12_168 (by decide) rfl hl.1 rfl (Nat.le_of_ble_eq_true rfl) dX12_bound_7) hf (fun r1 h H locs rr1 hp hf => ?_)
  refine lv_istore (lv' := [(5, .int (ii r1)), (0, .ref (B + a0)), (1, .int (ii a1)), (2, .int (ii a2)), (3, .int (ii a3)), (4, .int (ii a4))]) cx.1 cx.2.1 dX12_bound_10 hl (by decide) rfl (fun ls hl => ?_)
  refine lv_iload cx.1 cx.2.1 dX12_bound_12 (lv_at hl 0 rfl) ?_
  refine z_if_eq cx rr1 (tgt := 20) dX12_bound_14 (by decide) hf (fun _ hf => ?_) (fun _ hf => ?_)
  · refine lv_aload_n cx.1 cx.2.1 dX12_bound_20 rfl (lv_at hl 1 rfl) ?_
    refine z_gets cx hp (T := TX12) 12 6 (a0 + 3) rfl zin_12 (by decide) (by decide) ra0 rfl fl_X12_16 dX12_bound_21 ?_
    refine lv_iload_n cx.1 cx.2.1 dX12_bound_24 rfl (lv_at hl 2 rfl) ?_
    refine z_iald cx hp (zs_12_6 a0 (kt_lt ra0 (by decide)) ra0) ra1 dX12_bound_25 hf (fun x2 rx2 hf => ?_)
    refine lv_istore (lv' := [(6, .int (ii x2)), (5, .int (ii r1)), (0, .ref (B + a0)), (1, .int (ii a1)), (2, .int (ii a2)), (3, .int (ii a3)), (4, .int (ii a4))]) cx.1 cx.2.1 dX12_bound_26 hl (by decide) rfl (fun ls hl => ?_)
    refine lv_iload_n cx.1 cx.2.1 dX12_bound_28 rfl (lv_at hl 4 rfl) ?_
    refine z_jn hf (fun j => ∀  (h : HF) (H : Heap) (locs : List Loc) (ls : Array Slot), Hp g B s h H locs → lv_has ls 12 [] → j  h = some o → W p l e (rmn 5) s m args below meth c H locs 0 0 Q (F0 m 45 ls [])) ?_ (fun j45 hj45 hf => ?_)
    · intro  h H locs ls  hp hl hf
      refine z_bipush cx (by decide) dX12_bound_45 ?_
      rw [hQ]; exact z_iret cx hp (by decide) dX12_bound_47 hf
    refine z_if_lt cx ra2 (tgt := 45) dX12_bound_29 (by decide) hf (fun _ hf => ?_) (fun _ hf => ?_)
    · exact hj45  h _ _ ls  hp (lv_sub hl [] rfl) hf
    · refine lv_iload_n cx.1 cx.2.1 dX12_bound_32 rfl (lv_at hl 5 rfl) ?_
      refine z_if_lt cx ra3 (tgt := 45) dX12_bound_33 (by decide) hf (fun _ hf => ?_) (fun _ hf => ?_)
      · exact hj45  h _ _ ls  hp (lv_sub hl [] rfl) hf
      · refine lv_aload_n cx.1 cx.2.1 dX12_bound_36 rfl (lv_at hl 2 rfl) ?_
        refine lv_iload_n cx.1 cx.2.1 dX12_bound_37 rfl (lv_at hl 3 rfl) ?_
        refine lv_iload_n cx.1 cx.2.1 dX12_bound_38 rfl (lv_at hl 4 rfl) ?_
        refine z_ci cx hp (fun o' hx => zrunV (n := 5) (As := [.int (ii a1), .int (ii a2)]) (rest := []) cx hp (mX12_findCongruence F l g B h a0 a1 a2 ra0 ra1 ra2 o' hx) 12 ra0 (by decide) rfl vw_X12_findCongruence ml_X12_326 (by decide) rfl hl.1 rfl (Nat.le_of_ble_eq_true rfl) dX12_bound_39) hf (fun r3 h H locs rr3 hp hf => ?_)
        refine z_if_ne cx rr3 (tgt := 48) dX12_bound_42 (by decide) hf (fun _ hf => ?_) (fun _ hf => ?_)
        · exact hj45  h _ _ ls  hp (lv_sub hl [] rfl) hf
        · refine lv_aload_n cx.1 cx.2.1 dX12_bound_48 rfl (lv_at hl 2 rfl) ?_
          refine lv_aload_n cx.1 cx.2.1 dX12_bound_49 rfl (lv_at hl 2 rfl) ?_
          refine z_gets cx hp (T := TX12) 12 44 (a0 + 27) rfl zin_12 (by decide) (by decide) ra0 rfl fl_X12_88 dX12_bound_50 ?_
          refine z_cv cx hp (fun o' hx => zrunV (n := 5) (As := [.ref (B + (a0 + 27))]) (rest := []) cx hp (mX12_copyLine F l g B h a0 (a0 + 27) ra0 (zs_12_44 a0 (kt_lt ra0 (by decide)) ra0) o' hx) 12 ra0 (by decide) rfl vw_X12_copyLine ml_X12_336 (by decide) rfl hl.1 rfl (Nat.le_of_ble_eq_true rfl) dX12_bound_53) hf (fun _ h H locs hp hf => ?_)
          refine lv_aload_n cx.1 cx.2.1 dX12_bound_56 rfl (lv_at hl 2 rfl) ?_
          refine lv_iload_n cx.1 cx.2.1 dX12_bound_57 rfl (lv_at hl 3 rfl) ?_
          refine lv_iload_n cx.1 cx.2.1 dX12_bound_58 rfl (lv_at hl 5 rfl) ?_
          refine z_ci cx hp (fun o' hx => zrunV (n := 5) (As := [.int (ii a1), .int (ii a3)]) (rest := []) cx hp (mX12_findCongruence F l g B h a0 a1 a3 ra0 ra1 ra3 o' hx) 12 ra0 (by decide) rfl vw_X12_findCongruence ml_X12_326 (by decide) rfl hl.1 rfl (Nat.le_of_ble_eq_true rfl) dX12_bound_59) hf (fun r5 h H locs rr5 hp hf => ?_)
          refine z_if_ne cx rr5 (tgt := 68) dX12_bound_62 (by decide) hf (fun _ hf => ?_) (fun _ hf => ?_)
          · refine z_bipush cx (by decide) dX12_bound_65 ?_
            rw [hQ]; exact z_iret cx hp (by decide) dX12_bound_67 hf
          · refine lv_aload_n cx.1 cx.2.1 dX12_bound_68 rfl (lv_at hl 2 rfl) ?_
            refine lv_aload_n cx.1 cx.2.1 dX12_bound_69 rfl (lv_at hl 2 rfl) ?_
            refine z_gets cx hp (T := TX12) 12 45 (a0 + 28) rfl zin_12 (by decide) (by decide) ra0 rfl fl_X12_91 dX12_bound_70 ?_
            refine z_cv cx hp (fun o' hx => zrunV (n := 5) (As := [.ref (B + (a0 + 28))]) (rest := []) cx hp (mX12_copyLine F l g B h a0 (a0 + 28) ra0 (zs_12_45 a0 (kt_lt ra0 (by decide)) ra0) o' hx) 12 ra0 (by decide) rfl vw_X12_copyLine ml_X12_336 (by decide) rfl hl.1 rfl (Nat.le_of_ble_eq_true rfl) dX12_bound_73) hf (fun _ h H locs hp hf => ?_)
            refine z_iconst cx dX12_bound_76 ?_
            refine lv_istore (lv' := [(7, .int (ii 0)), (6, .int (ii x2)), (5, .int (ii r1)), (0, .ref (B + a0)), (1, .int (ii a1)), (2, .int (ii a2)), (3, .int (ii a3)), (4, .int (ii a4))]) cx.1 cx.2.1 dX12_bound_77 hl (by decide) rfl (fun ls hl => ?_)
            refine z_iconst cx dX12_bound_79 ?_
            refine lv_istore (lv' := [(8, .int (ii (-1))), (7, .int (ii 0)), (6, .int (ii x2)), (5, .int (ii r1)), (0, .ref (B + a0)), (1, .int (ii a1)), (2, .int (ii a2)), (3, .int (ii a3)), (4, .int (ii a4))]) cx.1 cx.2.1 dX12_bound_80 hl (by decide) rfl (fun ls hl => ?_)
            refine z_iconst cx dX12_bound_82 ?_
            refine lv_istore (lv' := [(9, .int (ii 0)), (8, .int (ii (-1))), (7, .int (ii 0)), (6, .int (ii x2)), (5, .int (ii r1)), (0, .ref (B + a0)), (1, .int (ii a1)), (2, .int (ii a2)), (3, .int (ii a3)), (4, .int (ii a4))]) cx.1 cx.2.1 dX12_bound_83 hl (by decide) rfl (fun ls hl => ?_)
            refine lv_aload_n cx.1 cx.2.1 dX12_bound_85 rfl (lv_at hl 5 rfl) ?_
            refine z_cv cx hp (fun o' hx => zrunV (n := 5) (As := []) (rest := []) cx hp (mX12_firstLine F l g B h a0 ra0 o' hx) 12 ra0 (by decide) rfl vw_X12_firstLine ml_X12_314 (by decide) rfl hl.1 rfl (Nat.le_of_ble_eq_true rfl) dX12_bound_86) hf (fun _ h H locs hp hf => ?_)
            refine z_iconst cx dX12_bound_89 ?_
            refine lv_istore (lv' := [(10, .int (ii 1)), (9, .int (ii 0)), (8, .int (ii (-1))), (7, .int (ii 0)), (6, .int (ii x2)), (5, .int (ii r1)), (0, .ref (B + a0)), (1, .int (ii a1)), (2, .int (ii a2)), (3, .int (ii a3)), (4, .int (ii a4))]) cx.1 cx.2.1 dX12_bound_90 hl (by decide) rfl (fun ls hl => ?_)
            refine z_jn hf (fun j => ∀ (x203_8 : Int) (h : HF) (H : Heap) (locs : List Loc) (ls : Array Slot), rng x203_8 → Hp g B s h H locs → lv_has ls 12 [(8, .int (ii x203_8))] → j x203_8 h = some o → W p l e (rmn 5) s m args below meth c H locs 0 0 Q (F0 m 203 ls [])) ?_ (fun j203 hj203 hf => ?_)
            · intro x203_8 h H locs ls rx203_8 hp hl hf
              refine lv_iload cx.1 cx.2.1 dX12_bound_203 (lv_at hl 0 rfl) ?_
              rw [hQ]; exact z_iret cx hp rx203_8 dX12_bound_205 hf
            exact wX12_bound_92 F cx a0 ra0 a1 ra1 a4 ra4 x2 rx2 j203 hj203 F 0 (-1) 0 1 h _ _ ls (by decide) (by decide) (by decide) (by decide) hp (lv_sub hl [6, 7, 10, 4, 3, 2, 1, 0] rfl) hf
  · refine lv_iload cx.1 cx.2.1 dX12_bound_17 (lv_at hl 0 rfl) ?_
    rw [hQ]; exact z_iret cx hp rr1 dX12_bound_19 hf
theorem dX12_quotient_0 : decode cX12_quotient 0 = .ok (.aload_n 0, 1) := by decide +kernel
theorem dX12_quotient_1 : decode cX12_quotient 1 = .ok (.iconst 0, 1) := by decide +kernel
theorem dX12_quotient_2 : decode cX12_quotient 2 = .ok (.putfield 115, 3) := by decide +kernel
theorem dX12_quotient_5 : decode cX12_quotient 5 = .ok (.aload_n 0, 1) := by decide +kernel
theorem dX12_quotient_6 : decode cX12_quotient 6 = .ok (.iload_n 1, 1) := by decide +kernel
theorem dX12_quotient_7 : decode cX12_quotient 7 = .ok (.invokevirtual 146, 3) := by decide +kernel
theorem dX12_quotient_10 : decode cX12_quotient 10 = .ok (.ifCond .eq 11, 3) := by decide +kernel
theorem dX12_quotient_13 : decode cX12_quotient 13 = .ok (.aload_n 0, 1) := by decide +kernel
theorem dX12_quotient_14 : decode cX12_quotient 14 = .ok (.iload_n 3, 1) := by decide +kernel
theorem dX12_quotient_15 : decode cX12_quotient 15 = .ok (.invokevirtual 146, 3) := by decide +kernel
theorem dX12_quotient_18 : decode cX12_quotient 18 = .ok (.ifCond .ne 6, 3) := by decide +kernel
theorem dX12_quotient_24 : decode cX12_quotient 24 = .ok (.aload_n 0, 1) := by decide +kernel
theorem dX12_quotient_25 : decode cX12_quotient 25 = .ok (.getfield 16, 3) := by decide +kernel
theorem dX12_quotient_28 : decode cX12_quotient 28 = .ok (.iload_n 1, 1) := by decide +kernel
theorem dX12_quotient_29 : decode cX12_quotient 29 = .ok (.iaload, 1) := by decide +kernel
theorem dX12_quotient_30 : decode cX12_quotient 30 = .ok (.ifCond .ne 6, 3) := by decide +kernel
theorem dX12_quotient_33 : decode cX12_quotient 33 = .ok (.bipush (-2), 2) := by decide +kernel
theorem dX12_quotient_35 : decode cX12_quotient 35 = .ok (.ireturn, 1) := by decide +kernel
theorem dX12_quotient_36 : decode cX12_quotient 36 = .ok (.iload_n 2, 1) := by decide +kernel
theorem dX12_quotient_37 : decode cX12_quotient 37 = .ok (.ifCond .lt 12, 3) := by decide +kernel
theorem dX12_quotient_40 : decode cX12_quotient 40 = .ok (.aload_n 0, 1) := by decide +kernel
theorem dX12_quotient_41 : decode cX12_quotient 41 = .ok (.iload_n 1, 1) := by decide +kernel
theorem dX12_quotient_42 : decode cX12_quotient 42 = .ok (.iload_n 2, 1) := by decide +kernel
theorem dX12_quotient_43 : decode cX12_quotient 43 = .ok (.invokevirtual 326, 3) := by decide +kernel
theorem dX12_quotient_46 : decode cX12_quotient 46 = .ok (.ifCond .ne 6, 3) := by decide +kernel
theorem dX12_quotient_52 : decode cX12_quotient 52 = .ok (.iconst 0, 1) := by decide +kernel
theorem dX12_quotient_53 : decode cX12_quotient 53 = .ok (.istore 4, 2) := by decide +kernel
theorem dX12_quotient_55 : decode cX12_quotient 55 = .ok (.iconst 0, 1) := by decide +kernel
theorem dX12_quotient_56 : decode cX12_quotient 56 = .ok (.istore 5, 2) := by decide +kernel
theorem dX12_quotient_58 : decode cX12_quotient 58 = .ok (.iload 5, 2) := by decide +kernel
theorem dX12_quotient_60 : decode cX12_quotient 60 = .ok (.aload_n 0, 1) := by decide +kernel
theorem dX12_quotient_61 : decode cX12_quotient 61 = .ok (.getfield 16, 3) := by decide +kernel
theorem dX12_quotient_64 : decode cX12_quotient 64 = .ok (.iload_n 1, 1) := by decide +kernel
theorem dX12_quotient_65 : decode cX12_quotient 65 = .ok (.iaload, 1) := by decide +kernel
theorem dX12_quotient_66 : decode cX12_quotient 66 = .ok (.if_icmp .ge 33, 3) := by decide +kernel
theorem dX12_quotient_69 : decode cX12_quotient 69 = .ok (.aload_n 0, 1) := by decide +kernel
theorem dX12_quotient_70 : decode cX12_quotient 70 = .ok (.getfield 85, 3) := by decide +kernel
theorem dX12_quotient_73 : decode cX12_quotient 73 = .ok (.iload 5, 2) := by decide +kernel
theorem dX12_quotient_75 : decode cX12_quotient 75 = .ok (.iaload, 1) := by decide +kernel
theorem dX12_quotient_76 : decode cX12_quotient 76 = .ok (.iload 5, 2) := by decide +kernel
theorem dX12_quotient_78 : decode cX12_quotient 78 = .ok (.if_icmp .ne 15, 3) := by decide +kernel
theorem dX12_quotient_81 : decode cX12_quotient 81 = .ok (.aload_n 0, 1) := by decide +kernel
theorem dX12_quotient_82 : decode cX12_quotient 82 = .ok (.getfield 82, 3) := by decide +kernel
theorem dX12_quotient_85 : decode cX12_quotient 85 = .ok (.iload 5, 2) := by decide +kernel
theorem dX12_quotient_87 : decode cX12_quotient 87 = .ok (.iload 4, 2) := by decide +kernel
theorem dX12_quotient_89 : decode cX12_quotient 89 = .ok (.iastore, 1) := by decide +kernel
theorem dX12_quotient_90 : decode cX12_quotient 90 = .ok (.iinc 4 1, 3) := by decide +kernel
theorem dX12_quotient_93 : decode cX12_quotient 93 = .ok (.iinc 5 1, 3) := by decide +kernel
theorem dX12_quotient_96 : decode cX12_quotient 96 = .ok (.goto (-38), 3) := by decide +kernel
theorem dX12_quotient_99 : decode cX12_quotient 99 = .ok (.aload_n 0, 1) := by decide +kernel
theorem dX12_quotient_100 : decode cX12_quotient 100 = .ok (.iload_n 1, 1) := by decide +kernel
theorem dX12_quotient_101 : decode cX12_quotient 101 = .ok (.iload 4, 2) := by decide +kernel
theorem dX12_quotient_103 : decode cX12_quotient 103 = .ok (.invokevirtual 301, 3) := by decide +kernel
theorem dX12_quotient_106 : decode cX12_quotient 106 = .ok (.iconst 0, 1) := by decide +kernel
theorem dX12_quotient_107 : decode cX12_quotient 107 = .ok (.istore 5, 2) := by decide +kernel
theorem dX12_quotient_109 : decode cX12_quotient 109 = .ok (.iload 5, 2) := by decide +kernel
theorem dX12_quotient_111 : decode cX12_quotient 111 = .ok (.aload_n 0, 1) := by decide +kernel
theorem dX12_quotient_112 : decode cX12_quotient 112 = .ok (.getfield 19, 3) := by decide +kernel
theorem dX12_quotient_115 : decode cX12_quotient 115 = .ok (.iload_n 1, 1) := by decide +kernel
theorem dX12_quotient_116 : decode cX12_quotient 116 = .ok (.iaload, 1) := by decide +kernel
theorem dX12_quotient_117 : decode cX12_quotient 117 = .ok (.if_icmp .ge 106, 3) := by decide +kernel
theorem dX12_quotient_120 : decode cX12_quotient 120 = .ok (.iconst 0, 1) := by decide +kernel
theorem dX12_quotient_121 : decode cX12_quotient 121 = .ok (.istore 6, 2) := by decide +kernel
theorem dX12_quotient_123 : decode cX12_quotient 123 = .ok (.iload 6, 2) := by decide +kernel
theorem dX12_quotient_125 : decode cX12_quotient 125 = .ok (.aload_n 0, 1) := by decide +kernel
theorem dX12_quotient_126 : decode cX12_quotient 126 = .ok (.iload_n 1, 1) := by decide +kernel
theorem dX12_quotient_127 : decode cX12_quotient 127 = .ok (.iload 5, 2) := by decide +kernel
theorem dX12_quotient_129 : decode cX12_quotient 129 = .ok (.iconst 0, 1) := by decide +kernel
theorem dX12_quotient_130 : decode cX12_quotient 130 = .ok (.invokevirtual 304, 3) := by decide +kernel
theorem dX12_quotient_133 : decode cX12_quotient 133 = .ok (.if_icmp .ge 84, 3) := by decide +kernel
theorem dX12_quotient_136 : decode cX12_quotient 136 = .ok (.iconst 0, 1) := by decide +kernel
theorem dX12_quotient_137 : decode cX12_quotient 137 = .ok (.istore 7, 2) := by decide +kernel
theorem dX12_quotient_139 : decode cX12_quotient 139 = .ok (.iload 7, 2) := by decide +kernel
theorem dX12_quotient_141 : decode cX12_quotient 141 = .ok (.aload_n 0, 1) := by decide +kernel
theorem dX12_quotient_142 : decode cX12_quotient 142 = .ok (.iload_n 1, 1) := by decide +kernel
theorem dX12_quotient_143 : decode cX12_quotient 143 = .ok (.iload 5, 2) := by decide +kernel
theorem dX12_quotient_145 : decode cX12_quotient 145 = .ok (.iconst 1, 1) := by decide +kernel
theorem dX12_quotient_146 : decode cX12_quotient 146 = .ok (.invokevirtual 304, 3) := by decide +kernel
theorem dX12_quotient_149 : decode cX12_quotient 149 = .ok (.if_icmp .ge 62, 3) := by decide +kernel
theorem dX12_quotient_152 : decode cX12_quotient 152 = .ok (.aload_n 0, 1) := by decide +kernel
theorem dX12_quotient_153 : decode cX12_quotient 153 = .ok (.bipush 8, 2) := by decide +kernel
theorem dX12_quotient_155 : decode cX12_quotient 155 = .ok (.iload 5, 2) := by decide +kernel
theorem dX12_quotient_157 : decode cX12_quotient 157 = .ok (.aload_n 0, 1) := by decide +kernel
theorem dX12_quotient_158 : decode cX12_quotient 158 = .ok (.getfield 82, 3) := by decide +kernel
theorem dX12_quotient_161 : decode cX12_quotient 161 = .ok (.aload_n 0, 1) := by decide +kernel
theorem dX12_quotient_162 : decode cX12_quotient 162 = .ok (.getfield 85, 3) := by decide +kernel
theorem dX12_quotient_165 : decode cX12_quotient 165 = .ok (.iload 6, 2) := by decide +kernel
theorem dX12_quotient_167 : decode cX12_quotient 167 = .ok (.iaload, 1) := by decide +kernel
theorem dX12_quotient_168 : decode cX12_quotient 168 = .ok (.iaload, 1) := by decide +kernel
theorem dX12_quotient_169 : decode cX12_quotient 169 = .ok (.aload_n 0, 1) := by decide +kernel
theorem dX12_quotient_170 : decode cX12_quotient 170 = .ok (.getfield 82, 3) := by decide +kernel
theorem dX12_quotient_173 : decode cX12_quotient 173 = .ok (.aload_n 0, 1) := by decide +kernel
theorem dX12_quotient_174 : decode cX12_quotient 174 = .ok (.getfield 85, 3) := by decide +kernel
theorem dX12_quotient_177 : decode cX12_quotient 177 = .ok (.iload 7, 2) := by decide +kernel
theorem dX12_quotient_179 : decode cX12_quotient 179 = .ok (.iaload, 1) := by decide +kernel
theorem dX12_quotient_180 : decode cX12_quotient 180 = .ok (.iaload, 1) := by decide +kernel
theorem dX12_quotient_181 : decode cX12_quotient 181 = .ok (.aload_n 0, 1) := by decide +kernel
theorem dX12_quotient_182 : decode cX12_quotient 182 = .ok (.getfield 82, 3) := by decide +kernel
theorem dX12_quotient_185 : decode cX12_quotient 185 = .ok (.aload_n 0, 1) := by decide +kernel
theorem dX12_quotient_186 : decode cX12_quotient 186 = .ok (.getfield 85, 3) := by decide +kernel
theorem dX12_quotient_189 : decode cX12_quotient 189 = .ok (.aload_n 0, 1) := by decide +kernel
theorem dX12_quotient_190 : decode cX12_quotient 190 = .ok (.iload_n 1, 1) := by decide +kernel
theorem dX12_quotient_191 : decode cX12_quotient 191 = .ok (.iload 5, 2) := by decide +kernel
theorem dX12_quotient_193 : decode cX12_quotient 193 = .ok (.iload 6, 2) := by decide +kernel
theorem dX12_quotient_195 : decode cX12_quotient 195 = .ok (.iload 7, 2) := by decide +kernel
theorem dX12_quotient_197 : decode cX12_quotient 197 = .ok (.invokevirtual 178, 3) := by decide +kernel
theorem dX12_quotient_200 : decode cX12_quotient 200 = .ok (.iaload, 1) := by decide +kernel
theorem dX12_quotient_201 : decode cX12_quotient 201 = .ok (.iaload, 1) := by decide +kernel
theorem dX12_quotient_202 : decode cX12_quotient 202 = .ok (.invokevirtual 307, 3) := by decide +kernel
theorem dX12_quotient_205 : decode cX12_quotient 205 = .ok (.iinc 7 1, 3) := by decide +kernel
theorem dX12_quotient_208 : decode cX12_quotient 208 = .ok (.goto (-69), 3) := by decide +kernel
theorem dX12_quotient_211 : decode cX12_quotient 211 = .ok (.iinc 6 1, 3) := by decide +kernel
theorem dX12_quotient_214 : decode cX12_quotient 214 = .ok (.goto (-91), 3) := by decide +kernel
theorem dX12_quotient_217 : decode cX12_quotient 217 = .ok (.iinc 5 1, 3) := by decide +kernel
theorem dX12_quotient_220 : decode cX12_quotient 220 = .ok (.goto (-111), 3) := by decide +kernel
theorem dX12_quotient_223 : decode cX12_quotient 223 = .ok (.aload_n 0, 1) := by decide +kernel
theorem dX12_quotient_224 : decode cX12_quotient 224 = .ok (.iload_n 3, 1) := by decide +kernel
theorem dX12_quotient_225 : decode cX12_quotient 225 = .ok (.invokevirtual 153, 3) := by decide +kernel
theorem dX12_quotient_228 : decode cX12_quotient 228 = .ok (.aload_n 0, 1) := by decide +kernel
theorem dX12_quotient_229 : decode cX12_quotient 229 = .ok (.bipush 8, 2) := by decide +kernel
theorem dX12_quotient_231 : decode cX12_quotient 231 = .ok (.iload_n 3, 1) := by decide +kernel
theorem dX12_quotient_232 : decode cX12_quotient 232 = .ok (.invokevirtual 202, 3) := by decide +kernel
theorem dX12_quotient_235 : decode cX12_quotient 235 = .ok (.iload 4, 2) := by decide +kernel
theorem dX12_quotient_237 : decode cX12_quotient 237 = .ok (.ireturn, 1) := by decide +kernel
theorem dX12_quotient_49 : decode cX12_quotient 49 = .ok (.bipush (-3), 2) := by decide +kernel
theorem dX12_quotient_51 : decode cX12_quotient 51 = .ok (.ireturn, 1) := by decide +kernel
theorem dX12_quotient_21 : decode cX12_quotient 21 = .ok (.bipush (-3), 2) := by decide +kernel
theorem dX12_quotient_23 : decode cX12_quotient 23 = .ok (.ireturn, 1) := by decide +kernel
def LX12_quotient_139 (F : Nat) (u0 : Nat) (u1 : Int) (u3 : Int) (u4 : Int) (u5 : Int) (u6 : Int) (k211 : Int → HF → RO) : Nat → Int → HF → RO
  | 0, _, _ => none
  | n + 1, v7, h =>
    zbd (fX12_upTo F u0 u1 u5 1 h) fun r12 h =>
    if v7 < r12 then (
      zrd h (u0 + 26) u6 fun x13 =>
      zrd h (u0 + 25) x13 fun x14 =>
      zrd h (u0 + 26) v7 fun x15 =>
      zrd h (u0 + 25) x15 fun x16 =>
      zbd (fX12_value F u0 u1 u5 u6 v7 h) fun r17 h =>
      zrd h (u0 + 26) r17 fun x18 =>
      zrd h (u0 + 25) x18 fun x19 =>
      zbd (fX12_setAt F u0 8 u5 x14 x16 x19 h) fun _ h =>
      zlet (wr (v7 + 1)) fun x21 =>
      LX12_quotient_139 F u0 u1 u3 u4 u5 u6 k211 n x21 h
    ) else (
      k211 u6 h
    )
set_option maxHeartbeats 4000000 in
set_option maxRecDepth 100000 in
theorem wX12_quotient_139 {p : Program} {l : Launch} {e : Env} {s : State} {m : MethodId} {args : Array Value} {below : List Frame} {meth : Method} {c : Code} {Q : State → Prop} {g : zG} {B : Nat} {o : Int × HF} (F : Nat) (cx : Cx p s m args meth c cX12_quotient 8 RX12 (some .int) g B) (u0 : Nat) (ru0 : kt u0 = 15) (u1 : Int) (ru1 : rng u1) (u3 : Int) (ru3 : rng u3) (u4 : Int) (ru4 : rng u4) (u5 : Int) (ru5 : rng u5) (u6 : Int) (ru6 : rng u6) (k211 : Int → HF → RO) (hk211 : ∀ (x6 : Int) (h : HF) (H : Heap) (locs : List Loc) (ls : Array Slot), rng x6 → Hp g B s h H locs → lv_has ls 8 [(0, .ref (B + u0)), (1, .int (ii u1)), (3, .int (ii u3)), (4, .int (ii u4)), (5, .int (ii u5)), (6, .int (ii x6))] → k211 x6 h = some o → W p l e (rmn 5) s m args below meth c H locs 0 0 Q (F0 m 211 ls [])) : ∀ (n : Nat) (v7 : Int) (h : HF) (H : Heap) (locs : List Loc) (ls : Array Slot), rng v7 → Hp g B s h H locs → lv_has ls 8 [(0, .ref (B + u0)), (1, .int (ii u1)), (3, .int (ii u3)), (4, .int (ii u4)), (5, .int (ii u5)), (6, .int (ii u6)), (7, .int (ii v7))] → LX12_quotient_139 F u0 u1 u3 u4 u5 u6 k211 n v7 h = some o → W p l e (rmn 5) s m args below meth c H locs 0 0 Q (F0 m 139 ls []) := by
  intro n
  induction n with
  | zero =>
    intro v7 h H locs ls rv7 hp hl hf
    cases hf
  | succ n ih =>
    intro v7 h H locs ls rv7 hp hl hf
    rw [LX12_quotient_139] at hf
    refine lv_iload cx.1 cx.2.1 dX12_quotient_139 (lv_at hl 6 rfl) ?_
    refine lv_aload_n cx.1 cx.2.1 dX12_quotient_141 rfl (lv_at hl 0 rfl) ?_
    refine lv_iload_n cx.1 cx.2.1 dX12_quotient_142 rfl (lv_at hl 1 rfl) ?_
    refine lv_iload cx.1 cx.2.1 dX12_quotient_143 (lv_at hl 4 rfl) ?_
    refine z_iconst cx dX12_quotient_145 ?_
    refine z_ci cx hp (fun o' hx => zrunV (n := 5) (As := [.int (ii u1), .int (ii u5), .int (ii 1)]) (rest := [.int (ii v7)]) cx hp (mX12_upTo F l g B h u0 u1 u5 1 ru0 ru1 ru5 (by decide) o' hx) 12 ru0 (by decide) rfl vw_X12_upTo ml_X12_304 (by decide) rfl hl.1 rfl (Nat.le_of_ble_eq_true rfl) dX12_quotient_146) hf (fun r12 h H locs rr12 hp hf => ?_)
    refine z_icmp_ge cx rv7 rr12 (tgt := 211) dX12_quotient_149 (by decide) hf (fun _ hf => ?_) (fun _ hf => ?_)
    · refine lv_aload_n cx.1 cx.2.1 dX12_quotient_152 rfl (lv_at hl 0 rfl) ?_
      refine z_bipush cx (by decide) dX12_quotient_153 ?_
      refine lv_iload cx.1 cx.2.1 dX12_quotient_155 (lv_at hl 4 rfl) ?_
      refine lv_aload_n cx.1 cx.2.1 dX12_quotient_157 rfl (lv_at hl 0 rfl) ?_
      refine z_gets cx hp (T := TX12) 12 41 (u0 + 25) rfl zin_12 (by decide) (by decide) ru0 rfl fl_X12_82 dX12_quotient_158 ?_
      refine lv_aload_n cx.1 cx.2.1 dX12_quotient_161 rfl (lv_at hl 0 rfl) ?_
      refine z_gets cx hp (T := TX12) 12 42 (u0 + 26) rfl zin_12 (by decide) (by decide) ru0 rfl fl_X12_85 dX12_quotient_162 ?_
      refine lv_iload cx.1 cx.2.1 dX12_quotient_165 (lv_at hl 5 rfl) ?_
      refine z_iald cx hp (zs_12_42 u0 (kt_lt ru0 (by decide)) ru0) ru6 dX12_quotient_167 hf (fun x13 rx13 hf => ?_)
      refine z_iald cx hp (zs_12_41 u0 (kt_lt ru0 (by decide)) ru0) rx13 dX12_quotient_168 hf (fun x14 rx14 hf => ?_)
      refine lv_aload_n cx.1 cx.2.1 dX12_quotient_169 rfl (lv_at hl 0 rfl) ?_
      refine z_gets cx hp (T := TX12) 12 41 (u0 + 25) rfl zin_12 (by decide) (by decide) ru0 rfl fl_X12_82 dX12_quotient_170 ?_
      refine lv_aload_n cx.1 cx.2.1 dX12_quotient_173 rfl (lv_at hl 0 rfl) ?_
      refine z_gets cx hp (T := TX12) 12 42 (u0 + 26) rfl zin_12 (by decide) (by decide) ru0 rfl fl_X12_85 dX12_quotient_174 ?_
      refine lv_iload cx.1 cx.2.1 dX12_quotient_177 (lv_at hl 6 rfl) ?_
      refine z_iald cx hp (zs_12_42 u0 (kt_lt ru0 (by decide)) ru0) rv7 dX12_quotient_179 hf (fun x15 rx15 hf => ?_)
      refine z_iald cx hp (zs_12_41 u0 (kt_lt ru0 (by decide)) ru0) rx15 dX12_quotient_180 hf (fun x16 rx16 hf => ?_)
      refine lv_aload_n cx.1 cx.2.1 dX12_quotient_181 rfl (lv_at hl 0 rfl) ?_
      refine z_gets cx hp (T := TX12) 12 41 (u0 + 25) rfl zin_12 (by decide) (by decide) ru0 rfl fl_X12_82 dX12_quotient_182 ?_
      refine lv_aload_n cx.1 cx.2.1 dX12_quotient_185 rfl (lv_at hl 0 rfl) ?_
      refine z_gets cx hp (T := TX12) 12 42 (u0 + 26) rfl zin_12 (by decide) (by decide) ru0 rfl fl_X12_85 dX12_quotient_186 ?_
      refine lv_aload_n cx.1 cx.2.1 dX12_quotient_189 rfl (lv_at hl 0 rfl) ?_
      refine lv_iload_n cx.1 cx.2.1 dX12_quotient_190 rfl (lv_at hl 1 rfl) ?_
      refine lv_iload cx.1 cx.2.1 dX12_quotient_191 (lv_at hl 4 rfl) ?_
      refine lv_iload cx.1 cx.2.1 dX12_quotient_193 (lv_at hl 5 rfl) ?_
      refine lv_iload cx.1 cx.2.1 dX12_quotient_195 (lv_at hl 6 rfl) ?_
      refine z_ci cx hp (fun o' hx => zrunV (n := 5) (As := [.int (ii u1), .int (ii u5), .int (ii u6), .int (ii v7)]) (rest := [.ref (B + (u0 + 26)), .ref (B + (u0 + 25)), .int (ii x16), .int (ii x14), .int (ii u5), .int (ii 8), .ref (B + u0)]) cx hp (mX12_value F l g B h u0 u1 u5 u6 v7 ru0 ru1 ru5 ru6 rv7 o' hx) 12 ru0 (by decide) rfl vw_X12_value ml_X12_178 (by decide) rfl hl.1 rfl (Nat.le_of_ble_eq_true rfl) dX12_quotient_197) hf (fun r17 h H locs rr17 hp hf => ?_)
      refine z_iald cx hp (zs_12_42 u0 (kt_lt ru0 (by decide)) ru0) rr17 dX12_quotient_200 hf (fun x18 rx18 hf => ?_)
      refine z_iald cx hp (zs_12_41 u0 (kt_lt ru0 (by decide)) ru0) rx18 dX12_quotient_201 hf (fun x19 rx19 hf => ?_)
      refine z_cv cx hp (fun o' hx => zrunV (n := 5) (As := [.int (ii 8), .int (ii u5), .int (ii x14), .int (ii x16), .int (ii x19)]) (rest := []) cx hp (mX12_setAt F l g B h u0 8 u5 x14 x16 x19 ru0 (by decide) ru5 rx14 rx16 rx19 o' hx) 12 ru0 (by decide) rfl vw_X12_setAt ml_X12_307 (by decide) rfl hl.1 rfl (Nat.le_of_ble_eq_true rfl) dX12_quotient_202) hf (fun _ h H locs hp hf => ?_)
      refine z_iinc cx (fun x21 => [(7, .int (ii x21)), (0, .ref (B + u0)), (1, .int (ii u1)), (3, .int (ii u3)), (4, .int (ii u4)), (5, .int (ii u5)), (6, .int (ii u6))]) dX12_quotient_205 hl (k := 6) rfl (by decide) (fun _ => rfl) hf (fun x21 rx21 hf ls hl => ?_)
      refine lv_goto (tgt := 139) cx.1 cx.2.1 dX12_quotient_208 (by decide) ?_
      exact ih x21 h _ _ ls rx21 hp (lv_sub hl [1, 2, 3, 4, 5, 6, 0] rfl) hf
    · exact hk211 u6 h _ _ ls ru6 hp (lv_sub hl [0, 1, 2, 3, 4, 5] rfl) hf
def LX12_quotient_123 (F : Nat) (u0 : Nat) (u1 : Int) (u3 : Int) (u4 : Int) (u5 : Int) (k217 : Int → HF → RO) : Nat → Int → HF → RO
  | 0, _, _ => none
  | n + 1, v6, h =>
    zbd (fX12_upTo F u0 u1 u5 0 h) fun r10 h =>
    if v6 < r10 then (
      zjn (fun (x211_6 : Int) (h : HF) => (
        zlet (wr (x211_6 + 1)) fun x11 =>
        LX12_quotient_123 F u0 u1 u3 u4 u5 k217 n x11 h
      )) fun j211 =>
      LX12_quotient_139 F u0 u1 u3 u4 u5 v6 j211 F 0 h
    ) else (
      k217 u5 h
    )
set_option maxHeartbeats 4000000 in
set_option maxRecDepth 100000 in
theorem wX12_quotient_123 {p : Program} {l : Launch} {e : Env} {s : State} {m : MethodId} {args : Array Value} {below : List Frame} {meth : Method} {c : Code} {Q : State → Prop} {g : zG} {B : Nat} {o : Int × HF} (F : Nat) (cx : Cx p s m args meth c cX12_quotient 8 RX12 (some .int) g B) (u0 : Nat) (ru0 : kt u0 = 15) (u1 : Int) (ru1 : rng u1) (u3 : Int) (ru3 : rng u3) (u4 : Int) (ru4 : rng u4) (u5 : Int) (ru5 : rng u5) (k217 : Int → HF → RO) (hk217 : ∀ (x5 : Int) (h : HF) (H : Heap) (locs : List Loc) (ls : Array Slot), rng x5 → Hp g B s h H locs → lv_has ls 8 [(0, .ref (B + u0)), (1, .int (ii u1)), (3, .int (ii u3)), (4, .int (ii u4)), (5, .int (ii x5))] → k217 x5 h = some o → W p l e (rmn 5) s m args below meth c H locs 0 0 Q (F0 m 217 ls [])) : ∀ (n : Nat) (v6 : Int) (h : HF) (H : Heap) (locs : List Loc) (ls : Array Slot), rng v6 → Hp g B s h H locs → lv_has ls 8 [(0, .ref (B + u0)), (1, .int (ii u1)), (3, .int (ii u3)), (4, .int (ii u4)), (5, .int (ii u5)), (6, .int (ii v6))] → LX12_quotient_123 F u0 u1 u3 u4 u5 k217 n v6 h = some o → W p l e (rmn 5) s m args below meth c H locs 0 0 Q (F0 m 123 ls []) := by
  intro n
  induction n with
  | zero =>
    intro v6 h H locs ls rv6 hp hl hf
    cases hf
  | succ n ih =>
    intro v6 h H locs ls rv6 hp hl hf
    rw [LX12_quotient_123] at hf
    refine lv_iload cx.1 cx.2.1 dX12_quotient_123 (lv_at hl 5 rfl) ?_
    refine lv_aload_n cx.1 cx.2.1 dX12_quotient_125 rfl (lv_at hl 0 rfl) ?_
    refine lv_iload_n cx.1 cx.2.1 dX12_quotient_126 rfl (lv_at hl 1 rfl) ?_
    refine lv_iload cx.1 cx.2.1 dX12_quotient_127 (lv_at hl 4 rfl) ?_
    refine z_iconst cx dX12_quotient_129 ?_
    refine z_ci cx hp (fun o' hx => zrunV (n := 5) (As := [.int (ii u1), .int (ii u5), .int (ii 0)]) (rest := [.int (ii v6)]) cx hp (mX12_upTo F l g B h u0 u1 u5 0 ru0 ru1 ru5 (by decide) o' hx) 12 ru0 (by decide) rfl vw_X12_upTo ml_X12_304 (by decide) rfl hl.1 rfl (Nat.le_of_ble_eq_true rfl) dX12_quotient_130) hf (fun r10 h H locs rr10 hp hf => ?_)
    refine z_icmp_ge cx rv6 rr10 (tgt := 217) dX12_quotient_133 (by decide) hf (fun _ hf => ?_) (fun _ hf => ?_)
    · refine z_iconst cx dX12_quotient_136 ?_
      refine lv_istore (lv' := [(7, .int (ii 0)), (0, .ref (B + u0)), (1, .int (ii u1)), (3, .int (ii u3)), (4, .int (ii u4)), (5, .int (ii u5)), (6, .int (ii v6))]) cx.1 cx.2.1 dX12_quotient_137 hl (by decide) rfl (fun ls hl => ?_)
      refine z_jn hf (fun j => ∀ (x211_6 : Int) (h : HF) (H : Heap) (locs : List Loc) (ls : Array Slot), rng x211_6 → Hp g B s h H locs → lv_has ls 8 [(0, .ref (B + u0)), (1, .int (ii u1)), (3, .int (ii u3)), (4, .int (ii u4)), (5, .int (ii u5)), (6, .int (ii x211_6))] → j x211_6 h = some o → W p l e (rmn 5) s m args below meth c H locs 0 0 Q (F0 m 211 ls [])) ?_ (fun j211 hj211 hf => ?_)
      · intro x211_6 h H locs ls rx211_6 hp hl hf
        refine z_iinc cx (fun x11 => [(6, .int (ii x11)), (0, .ref (B + u0)), (1, .int (ii u1)), (3, .int (ii u3)), (4, .int (ii u4)), (5, .int (ii u5))]) dX12_quotient_211 hl (k := 5) rfl (by decide) (fun _ => rfl) hf (fun x11 rx11 hf ls hl => ?_)
        refine lv_goto (tgt := 123) cx.1 cx.2.1 dX12_quotient_214 (by decide) ?_
        exact ih x11 h _ _ ls rx11 hp (lv_sub hl [1, 2, 3, 4, 5, 0] rfl) hf
      exact wX12_quotient_139 F cx u0 ru0 u1 ru1 u3 ru3 u4 ru4 u5 ru5 v6 rv6 j211 hj211 F 0 h _ _ ls (by decide) hp (lv_sub hl [1, 2, 3, 4, 5, 6, 0] rfl) hf
    · exact hk217 u5 h _ _ ls ru5 hp (lv_sub hl [0, 1, 2, 3, 4] rfl) hf
def LX12_quotient_109 (F : Nat) (u0 : Nat) (u1 : Int) (u3 : Int) (u4 : Int) (k223 : Int → HF → RO) : Nat → Int → HF → RO
  | 0, _, _ => none
  | n + 1, v5, h =>
    zrd h (u0 + 4) u1 fun x8 =>
    if v5 < x8 then (
      zjn (fun (x217_5 : Int) (h : HF) => (
        zlet (wr (x217_5 + 1)) fun x9 =>
        LX12_quotient_109 F u0 u1 u3 u4 k223 n x9 h
      )) fun j217 =>
      LX12_quotient_123 F u0 u1 u3 u4 v5 j217 F 0 h
    ) else (
      k223 u4 h
    )
set_option maxHeartbeats 4000000 in
set_option maxRecDepth 100000 in
theorem wX12_quotient_109 {p : Program} {l : Launch} {e : Env} {s : State} {m : MethodId} {args : Array Value} {below : List Frame} {meth : Method} {c : Code} {Q : State → Prop} {g : zG} {B : Nat} {o : Int × HF} (F : Nat) (cx : Cx p s m args meth c cX12_quotient 8 RX12 (some .int) g B) (u0 : Nat) (ru0 : kt u0 = 15) (u1 : Int) (ru1 : rng u1) (u3 : Int) (ru3 : rng u3) (u4 : Int) (ru4 : rng u4) (k223 : Int → HF → RO) (hk223 : ∀ (x4 : Int) (h : HF) (H : Heap) (locs : List Loc) (ls : Array Slot), rng x4 → Hp g B s h H locs → lv_has ls 8 [(0, .ref (B + u0)), (3, .int (ii u3)), (4, .int (ii x4))] → k223 x4 h = some o → W p l e (rmn 5) s m args below meth c H locs 0 0 Q (F0 m 223 ls [])) : ∀ (n : Nat) (v5 : Int) (h : HF) (H : Heap) (locs : List Loc) (ls : Array Slot), rng v5 → Hp g B s h H locs → lv_has ls 8 [(0, .ref (B + u0)), (1, .int (ii u1)), (3, .int (ii u3)), (4, .int (ii u4)), (5, .int (ii v5))] → LX12_quotient_109 F u0 u1 u3 u4 k223 n v5 h = some o → W p l e (rmn 5) s m args below meth c H locs 0 0 Q (F0 m 109 ls []) := by
  intro n
  induction n with
  | zero =>
    intro v5 h H locs ls rv5 hp hl hf
    cases hf
  | succ n ih =>
    intro v5 h H locs ls rv5 hp hl hf
    rw [LX12_quotient_109] at hf
    refine lv_iload cx.1 cx.2.1 dX12_quotient_109 (lv_at hl 4 rfl) ?_
    refine lv_aload_n cx.1 cx.2.1 dX12_quotient_111 rfl (lv_at hl 0 rfl) ?_
    refine z_gets cx hp (T := TX12) 12 7 (u0 + 4) rfl zin_12 (by decide) (by decide) ru0 rfl fl_X12_19 dX12_quotient_112 ?_
    refine lv_iload_n cx.1 cx.2.1 dX12_quotient_115 rfl (lv_at hl 1 rfl) ?_
    refine z_iald cx hp (zs_12_7 u0 (kt_lt ru0 (by decide)) ru0) ru1 dX12_quotient_116 hf (fun x8 rx8 hf => ?_)
    refine z_icmp_ge cx rv5 rx8 (tgt := 223) dX12_quotient_117 (by decide) hf (fun _ hf => ?_) (fun _ hf => ?_)
    · refine z_iconst cx dX12_quotient_120 ?_
      refine lv_istore (lv' := [(6, .int (ii 0)), (0, .ref (B + u0)), (1, .int (ii u1)), (3, .int (ii u3)), (4, .int (ii u4)), (5, .int (ii v5))]) cx.1 cx.2.1 dX12_quotient_121 hl (by decide) rfl (fun ls hl => ?_)
      refine z_jn hf (fun j => ∀ (x217_5 : Int) (h : HF) (H : Heap) (locs : List Loc) (ls : Array Slot), rng x217_5 → Hp g B s h H locs → lv_has ls 8 [(0, .ref (B + u0)), (1, .int (ii u1)), (3, .int (ii u3)), (4, .int (ii u4)), (5, .int (ii x217_5))] → j x217_5 h = some o → W p l e (rmn 5) s m args below meth c H locs 0 0 Q (F0 m 217 ls [])) ?_ (fun j217 hj217 hf => ?_)
      · intro x217_5 h H locs ls rx217_5 hp hl hf
        refine z_iinc cx (fun x9 => [(5, .int (ii x9)), (0, .ref (B + u0)), (1, .int (ii u1)), (3, .int (ii u3)), (4, .int (ii u4))]) dX12_quotient_217 hl (k := 4) rfl (by decide) (fun _ => rfl) hf (fun x9 rx9 hf ls hl => ?_)
        refine lv_goto (tgt := 109) cx.1 cx.2.1 dX12_quotient_220 (by decide) ?_
        exact ih x9 h _ _ ls rx9 hp (lv_sub hl [1, 2, 3, 4, 0] rfl) hf
      exact wX12_quotient_123 F cx u0 ru0 u1 ru1 u3 ru3 u4 ru4 v5 rv5 j217 hj217 F 0 h _ _ ls (by decide) hp (lv_sub hl [1, 2, 3, 4, 5, 0] rfl) hf
    · exact hk223 u4 h _ _ ls ru4 hp (lv_sub hl [0, 2, 3] rfl) hf
def LX12_quotient_58 (F : Nat) (u0 : Nat) (u1 : Int) (u3 : Int) (k99 : Int → HF → RO) : Nat → Int → Int → HF → RO
  | 0, _, _, _ => none
  | n + 1, v4, v5, h =>
    zrd h (u0 + 3) u1 fun x22 =>
    if v5 < x22 then (
      zrd h (u0 + 26) v5 fun x23 =>
      zjn (fun (x93_4 : Int) (x93_5 : Int) (h : HF) => (
        zlet (wr (x93_5 + 1)) fun x24 =>
        LX12_quotient_58 F u0 u1 u3 k99 n x93_4 x24 h
      )) fun j93 =>
      if x23 = v5 then (
        zwr h (u0 + 25) v5 v4 fun h =>
        zlet (wr (v4 + 1)) fun x25 =>
        j93 x25 v5 h
      ) else (
        j93 v4 v5 h
      )
    ) else (
      k99 v4 h
    )
set_option maxHeartbeats 4000000 in
set_option maxRecDepth 100000 in
theorem wX12_quotient_58 {p : Program} {l : Launch} {e : Env} {s : State} {m : MethodId} {args : Array Value} {below : List Frame} {meth : Method} {c : Code} {Q : State → Prop} {g : zG} {B : Nat} {o : Int × HF} (F : Nat) (cx : Cx p s m args meth c cX12_quotient 8 RX12 (some .int) g B) (u0 : Nat) (ru0 : kt u0 = 15) (u1 : Int) (ru1 : rng u1) (u3 : Int) (ru3 : rng u3) (k99 : Int → HF → RO) (hk99 : ∀ (x4 : Int) (h : HF) (H : Heap) (locs : List Loc) (ls : Array Slot), rng x4 → Hp g B s h H locs → lv_has ls 8 [(0, .ref (B + u0)), (1, .int (ii u1)), (3, .int (ii u3)), (4, .int (ii x4))] → k99 x4 h = some o → W p l e (rmn 5) s m args below meth c H locs 0 0 Q (F0 m 99 ls [])) : ∀ (n : Nat) (v4 : Int) (v5 : Int) (h : HF) (H : Heap) (locs : List Loc) (ls : Array Slot), rng v4 → rng v5 → Hp g B s h H locs → lv_has ls 8 [(0, .ref (B + u0)), (1, .int (ii u1)), (3, .int (ii u3)), (4, .int (ii v4)), (5, .int (ii v5))] → LX12_quotient_58 F u0 u1 u3 k99 n v4 v5 h = some o → W p l e (rmn 5) s m args below meth c H locs 0 0 Q (F0 m 58 ls []) := by
  intro n
  induction n with
  | zero =>
    intro v4 v5 h H locs ls rv4 rv5 hp hl hf
    cases hf
  | succ n ih =>
    intro v4 v5 h H locs ls rv4 rv5 hp hl hf
    rw [LX12_quotient_58] at hf
    refine lv_iload cx.1 cx.2.1 dX12_quotient_58 (lv_at hl 4 rfl) ?_
    refine lv_aload_n cx.1 cx.2.1 dX12_quotient_60 rfl (lv_at hl 0 rfl) ?_
    refine z_gets cx hp (T := TX12) 12 6 (u0 + 3) rfl zin_12 (by decide) (by decide) ru0 rfl fl_X12_16 dX12_quotient_61 ?_
    refine lv_iload_n cx.1 cx.2.1 dX12_quotient_64 rfl (lv_at hl 1 rfl) ?_
    refine z_iald cx hp (zs_12_6 u0 (kt_lt ru0 (by decide)) ru0) ru1 dX12_quotient_65 hf (fun x22 rx22 hf => ?_)
    refine z_icmp_ge cx rv5 rx22 (tgt := 99) dX12_quotient_66 (by decide) hf (fun _ hf => ?_) (fun _ hf => ?_)
    · refine lv_aload_n cx.1 cx.2.1 dX12_quotient_69 rfl (lv_at hl 0 rfl) ?_
      refine z_gets cx hp (T := TX12) 12 42 (u0 + 26) rfl zin_12 (by decide) (by decide) ru0 rfl fl_X12_85 dX12_quotient_70 ?_
      refine lv_iload cx.1 cx.2.1 dX12_quotient_73 (lv_at hl 4 rfl) ?_
      refine z_iald cx hp (zs_12_42 u0 (kt_lt ru0 (by decide)) ru0) rv5 dX12_quotient_75 hf (fun x23 rx23 hf => ?_)
      refine lv_iload cx.1 cx.2.1 dX12_quotient_76 (lv_at hl 4 rfl) ?_
      refine z_jn hf (fun j => ∀ (x93_4 : Int) (x93_5 : Int) (h : HF) (H : Heap) (locs : List Loc) (ls : Array Slot), rng x93_4 → rng x93_5 → Hp g B s h H locs → lv_has ls 8 [(0, .ref (B + u0)), (1, .int (ii u1)), (3, .int (ii u3)), (4, .int (ii x93_4)), (5, .int (ii x93_5))] → j x93_4 x93_5 h = some o → W p l e (rmn 5) s m args below meth c H locs 0 0 Q (F0 m 93 ls [])) ?_ (fun j93 hj93 hf => ?_)
      · intro x93_4 x93_5 h H locs ls rx93_4 rx93_5 hp hl hf
        refine z_iinc cx (fun x24 => [(5, .int (ii x24)), (0, .ref (B + u0)), (1, .int (ii u1)), (3, .int (ii u3)), (4, .int (ii x93_4))]) dX12_quotient_93 hl (k := 4) rfl (by decide) (fun _ => rfl) hf (fun x24 rx24 hf ls hl => ?_)
        refine lv_goto (tgt := 58) cx.1 cx.2.1 dX12_quotient_96 (by decide) ?_
        exact ih x93_4 x24 h _ _ ls rx93_4 rx24 hp (lv_sub hl [1, 2, 3, 4, 0] rfl) hf
      refine z_icmp_ne cx rx23 rv5 (tgt := 93) dX12_quotient_78 (by decide) hf (fun _ hf => ?_) (fun _ hf => ?_)
      · refine lv_aload_n cx.1 cx.2.1 dX12_quotient_81 rfl (lv_at hl 0 rfl) ?_
        refine z_gets cx hp (T := TX12) 12 41 (u0 + 25) rfl zin_12 (by decide) (by decide) ru0 rfl fl_X12_82 dX12_quotient_82 ?_
        refine lv_iload cx.1 cx.2.1 dX12_quotient_85 (lv_at hl 4 rfl) ?_
        refine lv_iload cx.1 cx.2.1 dX12_quotient_87 (lv_at hl 3 rfl) ?_
        refine z_iast cx hp (zs_12_41 u0 (kt_lt ru0 (by decide)) ru0) rv5 rv4 dX12_quotient_89 hf (fun h H locs hp hf => ?_)
        refine z_iinc cx (fun x25 => [(4, .int (ii x25)), (0, .ref (B + u0)), (1, .int (ii u1)), (3, .int (ii u3)), (5, .int (ii v5))]) dX12_quotient_90 hl (k := 3) rfl (by decide) (fun _ => rfl) hf (fun x25 rx25 hf ls hl => ?_)
        exact hj93 x25 v5 h _ _ ls rx25 rv5 hp (lv_sub hl [1, 2, 3, 0, 4] rfl) hf
      · exact hj93 v4 v5 h _ _ ls rv4 rv5 hp (lv_sub hl [0, 1, 2, 3, 4] rfl) hf
    · exact hk99 v4 h _ _ ls rv4 hp (lv_sub hl [0, 1, 2, 3] rfl) hf
def fX12_quotient (F : Nat) (a0 : Nat) (a1 : Int) (a2 : Int) (a3 : Int) (h : HF) : RO :=
  zpf h a0 0 0 fun h =>
  zbd (fX12_isDrawer F a0 a1 h) fun r1 h =>
  zjn (fun  (h : HF) => (
    some ((-3), h)
  )) fun j21 =>
  if r1 = 0 then (
    j21  h
  ) else (
    zbd (fX12_isDrawer F a0 a3 h) fun r2 h =>
    if r2 = 0 then (
      j21  h
    ) else (
      zrd h (a0 + 3) a1 fun x3 =>
      if x3 = 0 then (
        some ((-2), h)
      ) else (
        zjn (fun  (h : HF) => (
          some ((-3), h)
        )) fun j49 =>
        if a2 < 0 then (
          j49  h
        ) else (
          zbd (fX12_findCongruence F a0 a1 a2 h) fun r4 h =>
          if r4 = 0 then (
            j49  h
          ) else (
            zjn (fun (x99_4 : Int) (h : HF) => (
              zbd (fX12_like F a0 a1 x99_4 h) fun _ h =>
              zjn (fun (x223_4 : Int) (h : HF) => (
                zbd (fX12_keep F a0 a3 h) fun _ h =>
                zbd (fX12_copy F a0 8 a3 h) fun _ h =>
                some (x223_4, h)
              )) fun j223 =>
              LX12_quotient_109 F a0 a1 a3 x99_4 j223 F 0 h
            )) fun j99 =>
            LX12_quotient_58 F a0 a1 a3 j99 F 0 0 h
          )
        )
      )
    )
  )
set_option maxHeartbeats 4000000 in
set_option maxRecDepth 100000 in
theorem mX12_quotient (F : Nat) (l : Launch) (g : zG) (B : Nat) (h : HF) (a0 : Nat) (a1 : Int) (a2 : Int) (a3 : Int) (ra0 : kt a0 = 15) (ra1 : rng a1) (ra2 : rng a2) (ra3 : rng a3) : CTi l g B yX12_quotient cX12_quotient 8 (some .int) 5 [.ref (B + a0), .int (ii a1), .int (ii a2), .int (ii a3)] h (fX12_quotient F a0 a1 a2 a3 h) := by
  refine z_enterI (by decide) rfl (Nat.le_of_ble_eq_true rfl) ?_
  intro p e s m args below meth c ls o Q cx hp hl hf hQ
  have hl : lv_has ls 8 [(0, .ref (B + a0)), (1, .int (ii a1)), (2, .int (ii a2)), (3, .int (ii a3))] := hl
  unfold fX12_quotient at hf
  refine lv_aload_n cx.1 cx.2.1 dX12_quotient_0 rfl (lv_at hl 0 rfl) ?_
  refine z_iconst cx dX12_quotient_1 ?_
  refine z_puti cx hp (T := TX12) tyX12 tyX12_ok nmX12 12 0 (by decide) rfl zin_12 (by decide) (by decide) ra0 rfl rfl rfl fl_X12_115 dX12_quotient_2 hf (fun h H locs hp hf => ?_)
  refine lv_aload_n cx.1 cx.2.1 dX12_quotient_5 rfl (lv_at hl 0 rfl) ?_
  refine lv_iload_n cx.1 cx.2.1 dX12_quotient_6 rfl (lv_at hl 1 rfl) ?_
  refine z_ci cx hp (fun o' hx => zrunV (n := 5) (As := [.int (ii a1)]) (rest := []) cx hp (mX12_isDrawer F l g B h a0 a1 ra0 ra1 o' hx) 12 ra0 (by decide) rfl vw_X12_isDrawer ml_X12_146 (by decide) rfl hl.1 rfl (Nat.le_of_ble_eq_true rfl) dX12_quotient_7) hf (fun r1 h H locs rr1 hp hf => ?_)
  refine z_jn hf (fun j => ∀  (h : HF) (H : Heap) (locs : List Loc) (ls : Array Slot), Hp g B s h H locs → lv_has ls 8 [] → j  h = some o → W p l e (rmn 5) s m args below meth c H locs 0 0 Q (F0 m 21 ls [])) ?_ (fun j21 hj21 hf => ?_)
  · intro  h H locs ls  hp hl hf
    refine z_bipush cx (by decide) dX12_quotient_21 ?_
    rw [hQ]; exact z_iret cx hp (by decide) dX12_quotient_23 hf
  refine z_if_eq cx rr1 (tgt := 21) dX12_quotient_10 (by decide) hf (fun _ hf => ?_) (fun _ hf => ?_)
  · exact hj21  h _ _ ls  hp (lv_sub hl [] rfl) hf
  · refine lv_aload_n cx.1 cx.2.1 dX12_quotient_13 rfl (lv_at hl 0 rfl) ?_
    refine lv_iload_n cx.1 cx.2.1 dX12_quotient_14 rfl (lv_at hl 3 rfl) ?_
    refine z_ci cx hp (fun o' hx => zrunV (n := 5) (As := [.int (ii a3)]) (rest := []) cx hp (mX12_isDrawer F l g B h a0 a3 ra0 ra3 o' hx) 12 ra0 (by decide) rfl vw_X12_isDrawer ml_X12_146 (by decide) rfl hl.1 rfl (Nat.le_of_ble_eq_true rfl) dX12_quotient_15) hf (fun r2 h H locs rr2 hp hf => ?_)
    refine z_if_ne cx rr2 (tgt := 24) dX12_quotient_18 (by decide) hf (fun _ hf => ?_) (fun _ hf => ?_)
    · exact hj21  h _ _ ls  hp (lv_sub hl [] rfl) hf
    · refine lv_aload_n cx.1 cx.2.1 dX12_quotient_24 rfl (lv_at hl 0 rfl) ?_
      refine z_gets cx hp (T := TX12) 12 6 (a0 + 3) rfl zin_12 (by decide) (by decide) ra0 rfl fl_X12_16 dX12_quotient_25 ?_
      refine lv_iload_n cx.1 cx.2.1 dX12_quotient_28 rfl (lv_at hl 1 rfl) ?_
      refine z_iald cx hp (zs_12_6 a0 (kt_lt ra0 (by decide)) ra0) ra1 dX12_quotient_29 hf (fun x3 rx3 hf => ?_)
      refine z_if_ne cx rx3 (tgt := 36) dX12_quotient_30 (by decide) hf (fun _ hf => ?_) (fun _ hf => ?_)
      · refine z_bipush cx (by decide) dX12_quotient_33 ?_
        rw [hQ]; exact z_iret cx hp (by decide) dX12_quotient_35 hf
      · refine lv_iload_n cx.1 cx.2.1 dX12_quotient_36 rfl (lv_at hl 2 rfl) ?_
        refine z_jn hf (fun j => ∀  (h : HF) (H : Heap) (locs : List Loc) (ls : Array Slot), Hp g B s h H locs → lv_has ls 8 [] → j  h = some o → W p l e (rmn 5) s m args below meth c H locs 0 0 Q (F0 m 49 ls [])) ?_ (fun j49 hj49 hf => ?_)
        · intro  h H locs ls  hp hl hf
          refine z_bipush cx (by decide) dX12_quotient_49 ?_
          rw [hQ]; exact z_iret cx hp (by decide) dX12_quotient_51 hf
        refine z_if_lt cx ra2 (tgt := 49) dX12_quotient_37 (by decide) hf (fun _ hf => ?_) (fun _ hf => ?_)
        · exact hj49  h _ _ ls  hp (lv_sub hl [] rfl) hf
        · refine lv_aload_n cx.1 cx.2.1 dX12_quotient_40 rfl (lv_at hl 0 rfl) ?_
          refine lv_iload_n cx.1 cx.2.1 dX12_quotient_41 rfl (lv_at hl 1 rfl) ?_
          refine lv_iload_n cx.1 cx.2.1 dX12_quotient_42 rfl (lv_at hl 2 rfl) ?_
          refine z_ci cx hp (fun o' hx => zrunV (n := 5) (As := [.int (ii a1), .int (ii a2)]) (rest := []) cx hp (mX12_findCongruence F l g B h a0 a1 a2 ra0 ra1 ra2 o' hx) 12 ra0 (by decide) rfl vw_X12_findCongruence ml_X12_326 (by decide) rfl hl.1 rfl (Nat.le_of_ble_eq_true rfl) dX12_quotient_43) hf (fun r4 h H locs rr4 hp hf => ?_)
          refine z_if_ne cx rr4 (tgt := 52) dX12_quotient_46 (by decide) hf (fun _ hf => ?_) (fun _ hf => ?_)
          · exact hj49  h _ _ ls  hp (lv_sub hl [] rfl) hf
          · refine z_iconst cx dX12_quotient_52 ?_
            refine lv_istore (lv' := [(4, .int (ii 0)), (0, .ref (B + a0)), (1, .int (ii a1)), (2, .int (ii a2)), (3, .int (ii a3))]) cx.1 cx.2.1 dX12_quotient_53 hl (by decide) rfl (fun ls hl => ?_)
            refine z_iconst cx dX12_quotient_55 ?_
            refine lv_istore (lv' := [(5, .int (ii 0)), (4, .int (ii 0)), (0, .ref (B + a0)), (1, .int (ii a1)), (2, .int (ii a2)), (3, .int (ii a3))]) cx.1 cx.2.1 dX12_quotient_56 hl (by decide) rfl (fun ls hl => ?_)
            refine z_jn hf (fun j => ∀ (x99_4 : Int) (h : HF) (H : Heap) (locs : List Loc) (ls : Array Slot), rng x99_4 → Hp g B s h H locs → lv_has ls 8 [(0, .ref (B + a0)), (1, .int (ii a1)), (3, .int (ii a3)), (4, .int (ii x99_4))] → j x99_4 h = some o → W p l e (rmn 5) s m args below meth c H locs 0 0 Q (F0 m 99 ls [])) ?_ (fun j99 hj99 hf => ?_)
            · intro x99_4 h H locs ls rx99_4 hp hl hf
              refine lv_aload_n cx.1 cx.2.1 dX12_quotient_99 rfl (lv_at hl 0 rfl) ?_
              refine lv_iload_n cx.1 cx.2.1 dX12_quotient_100 rfl (lv_at hl 1 rfl) ?_
              refine lv_iload cx.1 cx.2.1 dX12_quotient_101 (lv_at hl 3 rfl) ?_
              refine z_cv cx hp (fun o' hx => zrunV (n := 5) (As := [.int (ii a1), .int (ii x99_4)]) (rest := []) cx hp (mX12_like F l g B h a0 a1 x99_4 ra0 ra1 rx99_4 o' hx) 12 ra0 (by decide) rfl vw_X12_like ml_X12_301 (by decide) rfl hl.1 rfl (Nat.le_of_ble_eq_true rfl) dX12_quotient_103) hf (fun _ h H locs hp hf => ?_)
              refine z_iconst cx dX12_quotient_106 ?_
              refine lv_istore (lv' := [(5, .int (ii 0)), (0, .ref (B + a0)), (1, .int (ii a1)), (3, .int (ii a3)), (4, .int (ii x99_4))]) cx.1 cx.2.1 dX12_quotient_107 hl (by decide) rfl (fun ls hl => ?_)
              refine z_jn hf (fun j => ∀ (x223_4 : Int) (h : HF) (H : Heap) (locs : List Loc) (ls : Array Slot), rng x223_4 → Hp g B s h H locs → lv_has ls 8 [(0, .ref (B + a0)), (3, .int (ii a3)), (4, .int (ii x223_4))] → j x223_4 h = some o → W p l e (rmn 5) s m args below meth c H locs 0 0 Q (F0 m 223 ls [])) ?_ (fun j223 hj223 hf => ?_)
              · intro x223_4 h H locs ls rx223_4 hp hl hf
                refine lv_aload_n cx.1 cx.2.1 dX12_quotient_223 rfl (lv_at hl 0 rfl) ?_
                refine lv_iload_n cx.1 cx.2.1 dX12_quotient_224 rfl (lv_at hl 1 rfl) ?_
                refine z_cv cx hp (fun o' hx => zrunV (n := 5) (As := [.int (ii a3)]) (rest := []) cx hp (mX12_keep F l g B h a0 a3 ra0 ra3 o' hx) 12 ra0 (by decide) rfl vw_X12_keep ml_X12_153 (by decide) rfl hl.1 rfl (Nat.le_of_ble_eq_true rfl) dX12_quotient_225) hf (fun _ h H locs hp hf => ?_)
                refine lv_aload_n cx.1 cx.2.1 dX12_quotient_228 rfl (lv_at hl 0 rfl) ?_
                refine z_bipush cx (by decide) dX12_quotient_229 ?_
                refine lv_iload_n cx.1 cx.2.1 dX12_quotient_231 rfl (lv_at hl 1 rfl) ?_
                refine z_cv cx hp (fun o' hx => zrunV (n := 5) (As := [.int (ii 8), .int (ii a3)]) (rest := []) cx hp (mX12_copy F l g B h a0 8 a3 ra0 (by decide) ra3 o' hx) 12 ra0 (by decide) rfl vw_X12_copy ml_X12_202 (by decide) rfl hl.1 rfl (Nat.le_of_ble_eq_true rfl) dX12_quotient_232) hf (fun _ h H locs hp hf => ?_)
                refine lv_iload cx.1 cx.2.1 dX12_quotient_235 (lv_at hl 2 rfl) ?_
                rw [hQ]; exact z_iret cx hp rx223_4 dX12_quotient_237 hf
              exact wX12_quotient_109 F cx a0 ra0 a1 ra1 a3 ra3 x99_4 rx99_4 j223 hj223 F 0 h _ _ ls (by decide) hp (lv_sub hl [1, 2, 3, 4, 0] rfl) hf
            exact wX12_quotient_58 F cx a0 ra0 a1 ra1 a3 ra3 j99 hj99 F 0 0 h _ _ ls (by decide) (by decide) hp (lv_sub hl [2, 3, 5, 1, 0] rfl) hf
theorem dX12_isOneSignature_0 : decode cX12_isOneSignature 0 = .ok (.aload_n 0, 1) := by decide +kernel
theorem dX12_isOneSignature_1 : decode cX12_isOneSignature 1 = .ok (.getfield 19, 3) := by decide +kernel
theorem dX12_isOneSignature_4 : decode cX12_isOneSignature 4 = .ok (.iload_n 1, 1) := by decide +kernel
theorem dX12_isOneSignature_5 : decode cX12_isOneSignature 5 = .ok (.iaload, 1) := by decide +kernel
theorem dX12_isOneSignature_6 : decode cX12_isOneSignature 6 = .ok (.aload_n 0, 1) := by decide +kernel
theorem dX12_isOneSignature_7 : decode cX12_isOneSignature 7 = .ok (.getfield 19, 3) := by decide +kernel
theorem dX12_isOneSignature_10 : decode cX12_isOneSignature 10 = .ok (.iload_n 2, 1) := by decide +kernel
theorem dX12_isOneSignature_11 : decode cX12_isOneSignature 11 = .ok (.iaload, 1) := by decide +kernel
theorem dX12_isOneSignature_12 : decode cX12_isOneSignature 12 = .ok (.if_icmp .ne 7, 3) := by decide +kernel
theorem dX12_isOneSignature_15 : decode cX12_isOneSignature 15 = .ok (.iconst 1, 1) := by decide +kernel
theorem dX12_isOneSignature_16 : decode cX12_isOneSignature 16 = .ok (.goto 4, 3) := by decide +kernel
theorem dX12_isOneSignature_19 : decode cX12_isOneSignature 19 = .ok (.iconst 0, 1) := by decide +kernel
theorem dX12_isOneSignature_20 : decode cX12_isOneSignature 20 = .ok (.istore_n 3, 1) := by decide +kernel
theorem dX12_isOneSignature_21 : decode cX12_isOneSignature 21 = .ok (.iconst 0, 1) := by decide +kernel
theorem dX12_isOneSignature_22 : decode cX12_isOneSignature 22 = .ok (.istore 4, 2) := by decide +kernel
theorem dX12_isOneSignature_24 : decode cX12_isOneSignature 24 = .ok (.iload 4, 2) := by decide +kernel
theorem dX12_isOneSignature_26 : decode cX12_isOneSignature 26 = .ok (.iconst 4, 1) := by decide +kernel
theorem dX12_isOneSignature_27 : decode cX12_isOneSignature 27 = .ok (.if_icmp .ge 47, 3) := by decide +kernel
theorem dX12_isOneSignature_30 : decode cX12_isOneSignature 30 = .ok (.iload_n 3, 1) := by decide +kernel
theorem dX12_isOneSignature_31 : decode cX12_isOneSignature 31 = .ok (.ifCond .eq 43, 3) := by decide +kernel
theorem dX12_isOneSignature_34 : decode cX12_isOneSignature 34 = .ok (.iload 4, 2) := by decide +kernel
theorem dX12_isOneSignature_36 : decode cX12_isOneSignature 36 = .ok (.aload_n 0, 1) := by decide +kernel
theorem dX12_isOneSignature_37 : decode cX12_isOneSignature 37 = .ok (.getfield 19, 3) := by decide +kernel
theorem dX12_isOneSignature_40 : decode cX12_isOneSignature 40 = .ok (.iload_n 1, 1) := by decide +kernel
theorem dX12_isOneSignature_41 : decode cX12_isOneSignature 41 = .ok (.iaload, 1) := by decide +kernel
theorem dX12_isOneSignature_42 : decode cX12_isOneSignature 42 = .ok (.if_icmp .ge 20, 3) := by decide +kernel
theorem dX12_isOneSignature_45 : decode cX12_isOneSignature 45 = .ok (.aload_n 0, 1) := by decide +kernel
theorem dX12_isOneSignature_46 : decode cX12_isOneSignature 46 = .ok (.iload_n 1, 1) := by decide +kernel
theorem dX12_isOneSignature_47 : decode cX12_isOneSignature 47 = .ok (.iload 4, 2) := by decide +kernel
theorem dX12_isOneSignature_49 : decode cX12_isOneSignature 49 = .ok (.invokevirtual 129, 3) := by decide +kernel
theorem dX12_isOneSignature_52 : decode cX12_isOneSignature 52 = .ok (.aload_n 0, 1) := by decide +kernel
theorem dX12_isOneSignature_53 : decode cX12_isOneSignature 53 = .ok (.iload_n 2, 1) := by decide +kernel
theorem dX12_isOneSignature_54 : decode cX12_isOneSignature 54 = .ok (.iload 4, 2) := by decide +kernel
theorem dX12_isOneSignature_56 : decode cX12_isOneSignature 56 = .ok (.invokevirtual 129, 3) := by decide +kernel
theorem dX12_isOneSignature_59 : decode cX12_isOneSignature 59 = .ok (.if_icmp .ne 7, 3) := by decide +kernel
theorem dX12_isOneSignature_66 : decode cX12_isOneSignature 66 = .ok (.iconst 0, 1) := by decide +kernel
theorem dX12_isOneSignature_62 : decode cX12_isOneSignature 62 = .ok (.iconst 1, 1) := by decide +kernel
theorem dX12_isOneSignature_63 : decode cX12_isOneSignature 63 = .ok (.goto 4, 3) := by decide +kernel
theorem dX12_isOneSignature_67 : decode cX12_isOneSignature 67 = .ok (.istore_n 3, 1) := by decide +kernel
theorem dX12_isOneSignature_68 : decode cX12_isOneSignature 68 = .ok (.iinc 4 1, 3) := by decide +kernel
theorem dX12_isOneSignature_71 : decode cX12_isOneSignature 71 = .ok (.goto (-47), 3) := by decide +kernel
theorem dX12_isOneSignature_74 : decode cX12_isOneSignature 74 = .ok (.iload_n 3, 1) := by decide +kernel
theorem dX12_isOneSignature_75 : decode cX12_isOneSignature 75 = .ok (.ireturn, 1) := by decide +kernel
def LX12_isOneSignature_24 (F : Nat) (u0 : Nat) (u1 : Int) (u2 : Int) (k74 : Int → HF → RO) : Nat → Int → Int → HF → RO
  | 0, _, _, _ => none
  | n + 1, v3, v4, h =>
    if v4 < 4 then (
      if v3 = 0 then (
        k74 v3 h
      ) else (
        zrd h (u0 + 4) u1 fun x3 =>
        zjn (fun (x67_4 : Int) (y67_0 : Int) (h : HF) => (
          zlet (wr (x67_4 + 1)) fun x4 =>
          LX12_isOneSignature_24 F u0 u1 u2 k74 n y67_0 x4 h
        )) fun j67 =>
        zjn (fun (x62_4 : Int) (h : HF) => (
          j67 x62_4 1 h
        )) fun j62 =>
        if v4 < x3 then (
          zbd (fX12_arity F u0 u1 v4 h) fun r5 h =>
          zbd (fX12_arity F u0 u2 v4 h) fun r6 h =>
          if r5 = r6 then (
            j62 v4 h
          ) else (
            j67 v4 0 h
          )
        ) else (
          j62 v4 h
        )
      )
    ) else (
      k74 v3 h
    )
set_option maxHeartbeats 4000000 in
set_option maxRecDepth 100000 in
theorem wX12_isOneSignature_24 {p : Program} {l : Launch} {e : Env} {s : State} {m : MethodId} {args : Array Value} {below : List Frame} {meth : Method} {c : Code} {Q : State → Prop} {g : zG} {B : Nat} {o : Int × HF} (F : Nat) (cx : Cx p s m args meth c cX12_isOneSignature 5 RX12 (some .boolean) g B) (u0 : Nat) (ru0 : kt u0 = 15) (u1 : Int) (ru1 : rng u1) (u2 : Int) (ru2 : rng u2) (k74 : Int → HF → RO) (hk74 : ∀ (x3 : Int) (h : HF) (H : Heap) (locs : List Loc) (ls : Array Slot), rng x3 → Hp g B s h H locs → lv_has ls 5 [(3, .int (ii x3))] → k74 x3 h = some o → W p l e (rmn 1) s m args below meth c H locs 0 0 Q (F0 m 74 ls [])) : ∀ (n : Nat) (v3 : Int) (v4 : Int) (h : HF) (H : Heap) (locs : List Loc) (ls : Array Slot), rng v3 → rng v4 → Hp g B s h H locs → lv_has ls 5 [(0, .ref (B + u0)), (1, .int (ii u1)), (2, .int (ii u2)), (3, .int (ii v3)), (4, .int (ii v4))] → LX12_isOneSignature_24 F u0 u1 u2 k74 n v3 v4 h = some o → W p l e (rmn 1) s m args below meth c H locs 0 0 Q (F0 m 24 ls []) := by
  intro n
  induction n with
  | zero =>
    intro v3 v4 h H locs ls rv3 rv4 hp hl hf
    cases hf
  | succ n ih =>
    intro v3 v4 h H locs ls rv3 rv4 hp hl hf
    rw [LX12_isOneSignature_24] at hf
    refine lv_iload cx.1 cx.2.1 dX12_isOneSignature_24 (lv_at hl 4 rfl) ?_
    refine z_iconst cx dX12_isOneSignature_26 ?_
    refine z_icmp_ge cx rv4 (by decide) (tgt := 74) dX12_isOneSignature_27 (by decide) hf (fun _ hf => ?_) (fun _ hf => ?_)
    · refine lv_iload_n cx.1 cx.2.1 dX12_isOneSignature_30 rfl (lv_at hl 3 rfl) ?_
      refine z_if_eq cx rv3 (tgt := 74) dX12_isOneSignature_31 (by decide) hf (fun _ hf => ?_) (fun _ hf => ?_)
      · exact hk74 v3 h _ _ ls rv3 hp (lv_sub hl [3] rfl) hf
      · refine lv_iload cx.1 cx.2.1 dX12_isOneSignature_34 (lv_at hl 4 rfl) ?_
        refine lv_aload_n cx.1 cx.2.1 dX12_isOneSignature_36 rfl (lv_at hl 0 rfl) ?_
        refine z_gets cx hp (T := TX12) 12 7 (u0 + 4) rfl zin_12 (by decide) (by decide) ru0 rfl fl_X12_19 dX12_isOneSignature_37 ?_
        refine lv_iload_n cx.1 cx.2.1 dX12_isOneSignature_40 rfl (lv_at hl 1 rfl) ?_
        refine z_iald cx hp (zs_12_7 u0 (kt_lt ru0 (by decide)) ru0) ru1 dX12_isOneSignature_41 hf (fun x3 rx3 hf => ?_)
        refine z_jn hf (fun j => ∀ (x67_4 : Int) (y67_0 : Int) (h : HF) (H : Heap) (locs : List Loc) (ls : Array Slot), rng x67_4 → rng y67_0 → Hp g B s h H locs → lv_has ls 5 [(0, .ref (B + u0)), (1, .int (ii u1)), (2, .int (ii u2)), (4, .int (ii x67_4))] → j x67_4 y67_0 h = some o → W p l e (rmn 1) s m args below meth c H locs 0 0 Q (F0 m 67 ls [.int (ii y67_0)])) ?_ (fun j67 hj67 hf => ?_)
        · intro x67_4 y67_0 h H locs ls rx67_4 ry67_0 hp hl hf
          refine lv_istore_n (lv' := [(3, .int (ii y67_0)), (0, .ref (B + u0)), (1, .int (ii u1)), (2, .int (ii u2)), (4, .int (ii x67_4))]) cx.1 cx.2.1 dX12_isOneSignature_67 rfl hl (by decide) rfl (fun ls hl => ?_)
          refine z_iinc cx (fun x4 => [(4, .int (ii x4)), (3, .int (ii y67_0)), (0, .ref (B + u0)), (1, .int (ii u1)), (2, .int (ii u2))]) dX12_isOneSignature_68 hl (k := 4) rfl (by decide) (fun _ => rfl) hf (fun x4 rx4 hf ls hl => ?_)
          refine lv_goto (tgt := 24) cx.1 cx.2.1 dX12_isOneSignature_71 (by decide) ?_
          exact ih y67_0 x4 h _ _ ls ry67_0 rx4 hp (lv_sub hl [2, 3, 4, 1, 0] rfl) hf
        refine z_jn hf (fun j => ∀ (x62_4 : Int) (h : HF) (H : Heap) (locs : List Loc) (ls : Array Slot), rng x62_4 → Hp g B s h H locs → lv_has ls 5 [(0, .ref (B + u0)), (1, .int (ii u1)), (2, .int (ii u2)), (4, .int (ii x62_4))] → j x62_4 h = some o → W p l e (rmn 1) s m args below meth c H locs 0 0 Q (F0 m 62 ls [])) ?_ (fun j62 hj62 hf => ?_)
        · intro x62_4 h H locs ls rx62_4 hp hl hf
          refine z_iconst cx dX12_isOneSignature_62 ?_
          refine lv_goto (tgt := 67) cx.1 cx.2.1 dX12_isOneSignature_63 (by decide) ?_
          exact hj67 x62_4 1 h _ _ ls rx62_4 (by decide) hp (lv_sub hl [0, 1, 2, 3] rfl) hf
        refine z_icmp_ge cx rv4 rx3 (tgt := 62) dX12_isOneSignature_42 (by decide) hf (fun _ hf => ?_) (fun _ hf => ?_)
        · refine lv_aload_n cx.1 cx.2.1 dX12_isOneSignature_45 rfl (lv_at hl 0 rfl) ?_
          refine lv_iload_n cx.1 cx.2.1 dX12_isOneSignature_46 rfl (lv_at hl 1 rfl) ?_
          refine lv_iload cx.1 cx.2.1 dX12_isOneSignature_47 (lv_at hl 4 rfl) ?_
          refine z_ci cx hp (fun o' hx => zrunV (n := 1) (As := [.int (ii u1), .int (ii v4)]) (rest := []) cx hp (mX12_arity F l g B h u0 u1 v4 ru0 ru1 rv4 o' hx) 12 ru0 (by decide) rfl vw_X12_arity ml_X12_129 (by decide) rfl hl.1 rfl (Nat.le_of_ble_eq_true rfl) dX12_isOneSignature_49) hf (fun r5 h H locs rr5 hp hf => ?_)
          refine lv_aload_n cx.1 cx.2.1 dX12_isOneSignature_52 rfl (lv_at hl 0 rfl) ?_
          refine lv_iload_n cx.1 cx.2.1 dX12_isOneSignature_53 rfl (lv_at hl 2 rfl) ?_
          refine lv_iload cx.1 cx.2.1 dX12_isOneSignature_54 (lv_at hl 4 rfl) ?_
          refine z_ci cx hp (fun o' hx => zrunV (n := 1) (As := [.int (ii u2), .int (ii v4)]) (rest := [.int (ii r5)]) cx hp (mX12_arity F l g B h u0 u2 v4 ru0 ru2 rv4 o' hx) 12 ru0 (by decide) rfl vw_X12_arity ml_X12_129 (by decide) rfl hl.1 rfl (Nat.le_of_ble_eq_true rfl) dX12_isOneSignature_56) hf (fun r6 h H locs rr6 hp hf => ?_)
          refine z_icmp_ne cx rr5 rr6 (tgt := 66) dX12_isOneSignature_59 (by decide) hf (fun _ hf => ?_) (fun _ hf => ?_)
          · exact hj62 v4 h _ _ ls rv4 hp (lv_sub hl [0, 1, 2, 4] rfl) hf
          · refine z_iconst cx dX12_isOneSignature_66 ?_
            exact hj67 v4 0 h _ _ ls rv4 (by decide) hp (lv_sub hl [0, 1, 2, 4] rfl) hf
        · exact hj62 v4 h _ _ ls rv4 hp (lv_sub hl [0, 1, 2, 4] rfl) hf
    · exact hk74 v3 h _ _ ls rv3 hp (lv_sub hl [3] rfl) hf
def fX12_isOneSignature (F : Nat) (a0 : Nat) (a1 : Int) (a2 : Int) (h : HF) : RO :=
  zrd h (a0 + 4) a1 fun x1 =>
  zrd h (a0 + 4) a2 fun x2 =>
  zjn (fun (y20_0 : Int) (h : HF) => (
    zjn (fun (x74_3 : Int) (h : HF) => (
      zrz x74_3 h
    )) fun j74 =>
    LX12_isOneSignature_24 F a0 a1 a2 j74 F y20_0 0 h
  )) fun j20 =>
  if x1 = x2 then (
    j20 1 h
  ) else (
    j20 0 h
  )
set_option maxHeartbeats 4000000 in
set_option maxRecDepth 100000 in
theorem mX12_isOneSignature (F : Nat) (l : Launch) (g : zG) (B : Nat) (h : HF) (a0 : Nat) (a1 : Int) (a2 : Int) (ra0 : kt a0 = 15) (ra1 : rng a1) (ra2 : rng a2) : CTi l g B yX12_isOneSignature cX12_isOneSignature 5 (some .boolean) 1 [.ref (B + a0), .int (ii a1), .int (ii a2)] h (fX12_isOneSignature F a0 a1 a2 h) := by
  refine z_enterI (by decide) rfl (Nat.le_of_ble_eq_true rfl) ?_
  intro p e s m args below meth c ls o Q cx hp hl hf hQ
  have hl : lv_has ls 5 [(0, .ref (B + a0)), (1, .int (ii a1)), (2, .int (ii a2))] := hl
  unfold fX12_isOneSignature at hf
  refine lv_aload_n cx.1 cx.2.1 dX12_isOneSignature_0 rfl (lv_at hl 0 rfl) ?_
  refine z_gets cx hp (T := TX12) 12 7 (a0 + 4) rfl zin_12 (by decide) (by decide) ra0 rfl fl_X12_19 dX12_isOneSignature_1 ?_
  refine lv_iload_n cx.1 cx.2.1 dX12_isOneSignature_4 rfl (lv_at hl 1 rfl) ?_
  refine z_iald cx hp (zs_12_7 a0 (kt_lt ra0 (by decide)) ra0) ra1 dX12_isOneSignature_5 hf (fun x1 rx1 hf => ?_)
  refine lv_aload_n cx.1 cx.2.1 dX12_isOneSignature_6 rfl (lv_at hl 0 rfl) ?_
  refine z_gets cx hp (T := TX12) 12 7 (a0 + 4) rfl zin_12 (by decide) (by decide) ra0 rfl fl_X12_19 dX12_isOneSignature_7 ?_
  refine lv_iload_n cx.1 cx.2.1 dX12_isOneSignature_10 rfl (lv_at hl 2 rfl) ?_
  refine z_iald cx hp (zs_12_7 a0 (kt_lt ra0 (by decide)) ra0) ra2 dX12_isOneSignature_11 hf (fun x2 rx2 hf => ?_)
  refine z_jn hf (fun j => ∀ (y20_0 : Int) (h : HF) (H : Heap) (locs : List Loc) (ls : Array Slot), rng y20_0 → Hp g B s h H locs → lv_has ls 5 [(0, .ref (B + a0)), (1, .int (ii a1)), (2, .int (ii a2))] → j y20_0 h = some o → W p l e (rmn 1) s m args below meth c H locs 0 0 Q (F0 m 20 ls [.int (ii y20_0)])) ?_ (fun j20 hj20 hf => ?_)
  · intro y20_0 h H locs ls ry20_0 hp hl hf
    refine lv_istore_n (lv' := [(3, .int (ii y20_0)), (0, .ref (B + a0)), (1, .int (ii a1)), (2, .int (ii a2))]) cx.1 cx.2.1 dX12_isOneSignature_20 rfl hl (by decide) rfl (fun ls hl => ?_)
    refine z_iconst cx dX12_isOneSignature_21 ?_
    refine lv_istore (lv' := [(4, .int (ii 0)), (3, .int (ii y20_0)), (0, .ref (B + a0)), (1, .int (ii a1)), (2, .int (ii a2))]) cx.1 cx.2.1 dX12_isOneSignature_22 hl (by decide) rfl (fun ls hl => ?_)
    refine z_jn hf (fun j => ∀ (x74_3 : Int) (h : HF) (H : Heap) (locs : List Loc) (ls : Array Slot), rng x74_3 → Hp g B s h H locs → lv_has ls 5 [(3, .int (ii x74_3))] → j x74_3 h = some o → W p l e (rmn 1) s m args below meth c H locs 0 0 Q (F0 m 74 ls [])) ?_ (fun j74 hj74 hf => ?_)
    · intro x74_3 h H locs ls rx74_3 hp hl hf
      refine lv_iload_n cx.1 cx.2.1 dX12_isOneSignature_74 rfl (lv_at hl 0 rfl) ?_
      rw [hQ]; exact z_zret cx hp dX12_isOneSignature_75 hf
    exact wX12_isOneSignature_24 F cx a0 ra0 a1 ra1 a2 ra2 j74 hj74 F y20_0 0 h _ _ ls ry20_0 (by decide) hp (lv_sub hl [2, 3, 4, 1, 0] rfl) hf
  refine z_icmp_ne cx rx1 rx2 (tgt := 19) dX12_isOneSignature_12 (by decide) hf (fun _ hf => ?_) (fun _ hf => ?_)
  · refine z_iconst cx dX12_isOneSignature_15 ?_
    refine lv_goto (tgt := 20) cx.1 cx.2.1 dX12_isOneSignature_16 (by decide) ?_
    exact hj20 1 h _ _ ls (by decide) hp (lv_sub hl [0, 1, 2] rfl) hf
  · refine z_iconst cx dX12_isOneSignature_19 ?_
    exact hj20 0 h _ _ ls (by decide) hp (lv_sub hl [0, 1, 2] rfl) hf
theorem dX12_goes_0 : decode cX12_goes 0 = .ok (.iconst 0, 1) := by decide +kernel
theorem dX12_goes_1 : decode cX12_goes 1 = .ok (.istore 4, 2) := by decide +kernel
theorem dX12_goes_3 : decode cX12_goes 3 = .ok (.iload 4, 2) := by decide +kernel
theorem dX12_goes_5 : decode cX12_goes 5 = .ok (.aload_n 0, 1) := by decide +kernel
theorem dX12_goes_6 : decode cX12_goes 6 = .ok (.getfield 19, 3) := by decide +kernel
theorem dX12_goes_9 : decode cX12_goes 9 = .ok (.iload_n 1, 1) := by decide +kernel
theorem dX12_goes_10 : decode cX12_goes 10 = .ok (.iaload, 1) := by decide +kernel
theorem dX12_goes_11 : decode cX12_goes 11 = .ok (.if_icmp .ge 165, 3) := by decide +kernel
theorem dX12_goes_14 : decode cX12_goes 14 = .ok (.aload_n 0, 1) := by decide +kernel
theorem dX12_goes_15 : decode cX12_goes 15 = .ok (.iload_n 1, 1) := by decide +kernel
theorem dX12_goes_16 : decode cX12_goes 16 = .ok (.iload 4, 2) := by decide +kernel
theorem dX12_goes_18 : decode cX12_goes 18 = .ok (.invokevirtual 129, 3) := by decide +kernel
theorem dX12_goes_21 : decode cX12_goes 21 = .ok (.ifCond .le 7, 3) := by decide +kernel
theorem dX12_goes_24 : decode cX12_goes 24 = .ok (.iload_n 3, 1) := by decide +kernel
theorem dX12_goes_25 : decode cX12_goes 25 = .ok (.goto 4, 3) := by decide +kernel
theorem dX12_goes_28 : decode cX12_goes 28 = .ok (.iconst 1, 1) := by decide +kernel
theorem dX12_goes_29 : decode cX12_goes 29 = .ok (.istore 5, 2) := by decide +kernel
theorem dX12_goes_31 : decode cX12_goes 31 = .ok (.aload_n 0, 1) := by decide +kernel
theorem dX12_goes_32 : decode cX12_goes 32 = .ok (.iload_n 1, 1) := by decide +kernel
theorem dX12_goes_33 : decode cX12_goes 33 = .ok (.iload 4, 2) := by decide +kernel
theorem dX12_goes_35 : decode cX12_goes 35 = .ok (.invokevirtual 129, 3) := by decide +kernel
theorem dX12_goes_38 : decode cX12_goes 38 = .ok (.iconst 1, 1) := by decide +kernel
theorem dX12_goes_39 : decode cX12_goes 39 = .ok (.if_icmp .le 7, 3) := by decide +kernel
theorem dX12_goes_42 : decode cX12_goes 42 = .ok (.iload_n 3, 1) := by decide +kernel
theorem dX12_goes_43 : decode cX12_goes 43 = .ok (.goto 4, 3) := by decide +kernel
theorem dX12_goes_46 : decode cX12_goes 46 = .ok (.iconst 1, 1) := by decide +kernel
theorem dX12_goes_47 : decode cX12_goes 47 = .ok (.istore 6, 2) := by decide +kernel
theorem dX12_goes_49 : decode cX12_goes 49 = .ok (.iconst 0, 1) := by decide +kernel
theorem dX12_goes_50 : decode cX12_goes 50 = .ok (.istore 7, 2) := by decide +kernel
theorem dX12_goes_52 : decode cX12_goes 52 = .ok (.iload 7, 2) := by decide +kernel
theorem dX12_goes_54 : decode cX12_goes 54 = .ok (.iload 5, 2) := by decide +kernel
theorem dX12_goes_56 : decode cX12_goes 56 = .ok (.if_icmp .ge 114, 3) := by decide +kernel
theorem dX12_goes_59 : decode cX12_goes 59 = .ok (.iconst 0, 1) := by decide +kernel
theorem dX12_goes_60 : decode cX12_goes 60 = .ok (.istore 8, 2) := by decide +kernel
theorem dX12_goes_62 : decode cX12_goes 62 = .ok (.iload 8, 2) := by decide +kernel
theorem dX12_goes_64 : decode cX12_goes 64 = .ok (.iload 6, 2) := by decide +kernel
theorem dX12_goes_66 : decode cX12_goes 66 = .ok (.if_icmp .ge 98, 3) := by decide +kernel
theorem dX12_goes_69 : decode cX12_goes 69 = .ok (.aload_n 0, 1) := by decide +kernel
theorem dX12_goes_70 : decode cX12_goes 70 = .ok (.iload_n 1, 1) := by decide +kernel
theorem dX12_goes_71 : decode cX12_goes 71 = .ok (.iload 4, 2) := by decide +kernel
theorem dX12_goes_73 : decode cX12_goes 73 = .ok (.iload 7, 2) := by decide +kernel
theorem dX12_goes_75 : decode cX12_goes 75 = .ok (.iload 8, 2) := by decide +kernel
theorem dX12_goes_77 : decode cX12_goes 77 = .ok (.invokevirtual 178, 3) := by decide +kernel
theorem dX12_goes_80 : decode cX12_goes 80 = .ok (.istore 9, 2) := by decide +kernel
theorem dX12_goes_82 : decode cX12_goes 82 = .ok (.aload_n 0, 1) := by decide +kernel
theorem dX12_goes_83 : decode cX12_goes 83 = .ok (.iload_n 1, 1) := by decide +kernel
theorem dX12_goes_84 : decode cX12_goes 84 = .ok (.iload 4, 2) := by decide +kernel
theorem dX12_goes_86 : decode cX12_goes 86 = .ok (.invokevirtual 129, 3) := by decide +kernel
theorem dX12_goes_89 : decode cX12_goes 89 = .ok (.ifCond .le 13, 3) := by decide +kernel
theorem dX12_goes_92 : decode cX12_goes 92 = .ok (.aload_n 0, 1) := by decide +kernel
theorem dX12_goes_93 : decode cX12_goes 93 = .ok (.getfield 94, 3) := by decide +kernel
theorem dX12_goes_96 : decode cX12_goes 96 = .ok (.iload 7, 2) := by decide +kernel
theorem dX12_goes_98 : decode cX12_goes 98 = .ok (.iaload, 1) := by decide +kernel
theorem dX12_goes_99 : decode cX12_goes 99 = .ok (.goto 4, 3) := by decide +kernel
theorem dX12_goes_102 : decode cX12_goes 102 = .ok (.iconst 0, 1) := by decide +kernel
theorem dX12_goes_103 : decode cX12_goes 103 = .ok (.istore 10, 2) := by decide +kernel
theorem dX12_goes_105 : decode cX12_goes 105 = .ok (.aload_n 0, 1) := by decide +kernel
theorem dX12_goes_106 : decode cX12_goes 106 = .ok (.iload_n 1, 1) := by decide +kernel
theorem dX12_goes_107 : decode cX12_goes 107 = .ok (.iload 4, 2) := by decide +kernel
theorem dX12_goes_109 : decode cX12_goes 109 = .ok (.invokevirtual 129, 3) := by decide +kernel
theorem dX12_goes_112 : decode cX12_goes 112 = .ok (.iconst 1, 1) := by decide +kernel
theorem dX12_goes_113 : decode cX12_goes 113 = .ok (.if_icmp .le 13, 3) := by decide +kernel
theorem dX12_goes_116 : decode cX12_goes 116 = .ok (.aload_n 0, 1) := by decide +kernel
theorem dX12_goes_117 : decode cX12_goes 117 = .ok (.getfield 94, 3) := by decide +kernel
theorem dX12_goes_120 : decode cX12_goes 120 = .ok (.iload 8, 2) := by decide +kernel
theorem dX12_goes_122 : decode cX12_goes 122 = .ok (.iaload, 1) := by decide +kernel
theorem dX12_goes_123 : decode cX12_goes 123 = .ok (.goto 4, 3) := by decide +kernel
theorem dX12_goes_126 : decode cX12_goes 126 = .ok (.iconst 0, 1) := by decide +kernel
theorem dX12_goes_127 : decode cX12_goes 127 = .ok (.istore 11, 2) := by decide +kernel
theorem dX12_goes_129 : decode cX12_goes 129 = .ok (.iload 9, 2) := by decide +kernel
theorem dX12_goes_131 : decode cX12_goes 131 = .ok (.iload_n 3, 1) := by decide +kernel
theorem dX12_goes_132 : decode cX12_goes 132 = .ok (.if_icmp .ge 26, 3) := by decide +kernel
theorem dX12_goes_135 : decode cX12_goes 135 = .ok (.aload_n 0, 1) := by decide +kernel
theorem dX12_goes_136 : decode cX12_goes 136 = .ok (.getfield 94, 3) := by decide +kernel
theorem dX12_goes_139 : decode cX12_goes 139 = .ok (.iload 9, 2) := by decide +kernel
theorem dX12_goes_141 : decode cX12_goes 141 = .ok (.iaload, 1) := by decide +kernel
theorem dX12_goes_142 : decode cX12_goes 142 = .ok (.aload_n 0, 1) := by decide +kernel
theorem dX12_goes_143 : decode cX12_goes 143 = .ok (.iload_n 2, 1) := by decide +kernel
theorem dX12_goes_144 : decode cX12_goes 144 = .ok (.iload 4, 2) := by decide +kernel
theorem dX12_goes_146 : decode cX12_goes 146 = .ok (.iload 10, 2) := by decide +kernel
theorem dX12_goes_148 : decode cX12_goes 148 = .ok (.iload 11, 2) := by decide +kernel
theorem dX12_goes_150 : decode cX12_goes 150 = .ok (.invokevirtual 178, 3) := by decide +kernel
theorem dX12_goes_153 : decode cX12_goes 153 = .ok (.if_icmp .eq 5, 3) := by decide +kernel
theorem dX12_goes_156 : decode cX12_goes 156 = .ok (.iconst 0, 1) := by decide +kernel
theorem dX12_goes_157 : decode cX12_goes 157 = .ok (.ireturn, 1) := by decide +kernel
theorem dX12_goes_158 : decode cX12_goes 158 = .ok (.iinc 8 1, 3) := by decide +kernel
theorem dX12_goes_161 : decode cX12_goes 161 = .ok (.goto (-99), 3) := by decide +kernel
theorem dX12_goes_164 : decode cX12_goes 164 = .ok (.iinc 7 1, 3) := by decide +kernel
theorem dX12_goes_167 : decode cX12_goes 167 = .ok (.goto (-115), 3) := by decide +kernel
theorem dX12_goes_170 : decode cX12_goes 170 = .ok (.iinc 4 1, 3) := by decide +kernel
theorem dX12_goes_173 : decode cX12_goes 173 = .ok (.goto (-170), 3) := by decide +kernel
theorem dX12_goes_176 : decode cX12_goes 176 = .ok (.iconst 1, 1) := by decide +kernel
theorem dX12_goes_177 : decode cX12_goes 177 = .ok (.ireturn, 1) := by decide +kernel
def LX12_goes_62 (F : Nat) (u0 : Nat) (u1 : Int) (u2 : Int) (u3 : Int) (u4 : Int) (u5 : Int) (u6 : Int) (u7 : Int) (k164 : Int → HF → RO) (k156 : HF → RO) : Nat → Int → HF → RO
  | 0, _, _ => none
  | n + 1, v8, h =>
    if v8 < u6 then (
      zbd (fX12_value F u0 u1 u4 u7 v8 h) fun r6 h =>
      zbd (fX12_arity F u0 u1 u4 h) fun r7 h =>
      zjn (fun (x103_8 : Int) (x103_9 : Int) (y103_0 : Int) (h : HF) => (
        zbd (fX12_arity F u0 u1 u4 h) fun r8 h =>
        zjn (fun (x127_8 : Int) (x127_9 : Int) (x127_10 : Int) (y127_0 : Int) (h : HF) => (
          zjn (fun (x158_8 : Int) (h : HF) => (
            zlet (wr (x158_8 + 1)) fun x9 =>
            LX12_goes_62 F u0 u1 u2 u3 u4 u5 u6 u7 k164 k156 n x9 h
          )) fun j158 =>
          if x127_9 < u3 then (
            zrd h (u0 + 29) x127_9 fun x10 =>
            zbd (fX12_value F u0 u2 u4 x127_10 y127_0 h) fun r11 h =>
            if x10 = r11 then (
              j158 x127_8 h
            ) else (
              k156  h
            )
          ) else (
            j158 x127_8 h
          )
        )) fun j127 =>
        if 1 < r8 then (
          zrd h (u0 + 29) x103_8 fun x12 =>
          j127 x103_8 x103_9 y103_0 x12 h
        ) else (
          j127 x103_8 x103_9 y103_0 0 h
        )
      )) fun j103 =>
      if 0 < r7 then (
        zrd h (u0 + 29) u7 fun x13 =>
        j103 v8 r6 x13 h
      ) else (
        j103 v8 r6 0 h
      )
    ) else (
      k164 u7 h
    )
set_option maxHeartbeats 4000000 in
set_option maxRecDepth 100000 in
theorem wX12_goes_62 {p : Program} {l : Launch} {e : Env} {s : State} {m : MethodId} {args : Array Value} {below : List Frame} {meth : Method} {c : Code} {Q : State → Prop} {g : zG} {B : Nat} {o : Int × HF} (F : Nat) (cx : Cx p s m args meth c cX12_goes 12 RX12 (some .boolean) g B) (u0 : Nat) (ru0 : kt u0 = 15) (u1 : Int) (ru1 : rng u1) (u2 : Int) (ru2 : rng u2) (u3 : Int) (ru3 : rng u3) (u4 : Int) (ru4 : rng u4) (u5 : Int) (ru5 : rng u5) (u6 : Int) (ru6 : rng u6) (u7 : Int) (ru7 : rng u7) (k164 : Int → HF → RO) (hk164 : ∀ (x7 : Int) (h : HF) (H : Heap) (locs : List Loc) (ls : Array Slot), rng x7 → Hp g B s h H locs → lv_has ls 12 [(0, .ref (B + u0)), (1, .int (ii u1)), (2, .int (ii u2)), (3, .int (ii u3)), (4, .int (ii u4)), (5, .int (ii u5)), (6, .int (ii u6)), (7, .int (ii x7))] → k164 x7 h = some o → W p l e (rmn 3) s m args below meth c H locs 0 0 Q (F0 m 164 ls [])) (k156 : HF → RO) (hk156 : ∀  (h : HF) (H : Heap) (locs : List Loc) (ls : Array Slot), Hp g B s h H locs → lv_has ls 12 [] → k156  h = some o → W p l e (rmn 3) s m args below meth c H locs 0 0 Q (F0 m 156 ls [])) : ∀ (n : Nat) (v8 : Int) (h : HF) (H : Heap) (locs : List Loc) (ls : Array Slot), rng v8 → Hp g B s h H locs → lv_has ls 12 [(0, .ref (B + u0)), (1, .int (ii u1)), (2, .int (ii u2)), (3, .int (ii u3)), (4, .int (ii u4)), (5, .int (ii u5)), (6, .int (ii u6)), (7, .int (ii u7)), (8, .int (ii v8))] → LX12_goes_62 F u0 u1 u2 u3 u4 u5 u6 u7 k164 k156 n v8 h = some o → W p l e (rmn 3) s m args below meth c H locs 0 0 Q (F0 m 62 ls []) := by
  intro n
  induction n with
  | zero =>
    intro v8 h H locs ls rv8 hp hl hf
    cases hf
  | succ n ih =>
    intro v8 h H locs ls rv8 hp hl hf
    rw [LX12_goes_62] at hf
    refine lv_iload cx.1 cx.2.1 dX12_goes_62 (lv_at hl 8 rfl) ?_
    refine lv_iload cx.1 cx.2.1 dX12_goes_64 (lv_at hl 6 rfl) ?_
    refine z_icmp_ge cx rv8 ru6 (tgt := 164) dX12_goes_66 (by decide) hf (fun _ hf => ?_) (fun _ hf => ?_)
    · refine lv_aload_n cx.1 cx.2.1 dX12_goes_69 rfl (lv_at hl 0 rfl) ?_
      refine lv_iload_n cx.1 cx.2.1 dX12_goes_70 rfl (lv_at hl 1 rfl) ?_
      refine lv_iload cx.1 cx.2.1 dX12_goes_71 (lv_at hl 4 rfl) ?_
      refine lv_iload cx.1 cx.2.1 dX12_goes_73 (lv_at hl 7 rfl) ?_
      refine lv_iload cx.1 cx.2.1 dX12_goes_75 (lv_at hl 8 rfl) ?_
      refine z_ci cx hp (fun o' hx => zrunV (n := 3) (As := [.int (ii u1), .int (ii u4), .int (ii u7), .int (ii v8)]) (rest := []) cx hp (mX12_value F l g B h u0 u1 u4 u7 v8 ru0 ru1 ru4 ru7 rv8 o' hx) 12 ru0 (by decide) rfl vw_X12_value ml_X12_178 (by decide) rfl hl.1 rfl (Nat.le_of_ble_eq_true rfl) dX12_goes_77) hf (fun r6 h H locs rr6 hp hf => ?_)
      refine lv_istore (lv' := [(9, .int (ii r6)), (0, .ref (B + u0)), (1, .int (ii u1)), (2, .int (ii u2)), (3, .int (ii u3)), (4, .int (ii u4)), (5, .int (ii u5)), (6, .int (ii u6)), (7, .int (ii u7)), (8, .int (ii v8))]) cx.1 cx.2.1 dX12_goes_80 hl (by decide) rfl (fun ls hl => ?_)
      refine lv_aload_n cx.1 cx.2.1 dX12_goes_82 rfl (lv_at hl 1 rfl) ?_
      refine lv_iload_n cx.1 cx.2.1 dX12_goes_83 rfl (lv_at hl 2 rfl) ?_
      refine lv_iload cx.1 cx.2.1 dX12_goes_84 (lv_at hl 5 rfl) ?_
      refine z_ci cx hp (fun o' hx => zrunV (n := 3) (As := [.int (ii u1), .int (ii u4)]) (rest := []) cx hp (mX12_arity F l g B h u0 u1 u4 ru0 ru1 ru4 o' hx) 12 ru0 (by decide) rfl vw_X12_arity ml_X12_129 (by decide) rfl hl.1 rfl (Nat.le_of_ble_eq_true rfl) dX12_goes_86) hf (fun r7 h H locs rr7 hp hf => ?_)
      refine z_jn hf (fun j => ∀ (x103_8 : Int) (x103_9 : Int) (y103_0 : Int) (h : HF) (H : Heap) (locs : List Loc) (ls : Array Slot), rng x103_8 → rng x103_9 → rng y103_0 → Hp g B s h H locs → lv_has ls 12 [(0, .ref (B + u0)), (1, .int (ii u1)), (2, .int (ii u2)), (3, .int (ii u3)), (4, .int (ii u4)), (5, .int (ii u5)), (6, .int (ii u6)), (7, .int (ii u7)), (8, .int (ii x103_8)), (9, .int (ii x103_9))] → j x103_8 x103_9 y103_0 h = some o → W p l e (rmn 3) s m args below meth c H locs 0 0 Q (F0 m 103 ls [.int (ii y103_0)])) ?_ (fun j103 hj103 hf => ?_)
      · intro x103_8 x103_9 y103_0 h H locs ls rx103_8 rx103_9 ry103_0 hp hl hf
        refine lv_istore (lv' := [(10, .int (ii y103_0)), (0, .ref (B + u0)), (1, .int (ii u1)), (2, .int (ii u2)), (3, .int (ii u3)), (4, .int (ii u4)), (5, .int (ii u5)), (6, .int (ii u6)), (7, .int (ii u7)), (8, .int (ii x103_8)), (9, .int (ii x103_9))]) cx.1 cx.2.1 dX12_goes_103 hl (by decide) rfl (fun ls hl => ?_)
        refine lv_aload_n cx.1 cx.2.1 dX12_goes_105 rfl (lv_at hl 1 rfl) ?_
        refine lv_iload_n cx.1 cx.2.1 dX12_goes_106 rfl (lv_at hl 2 rfl) ?_
        refine lv_iload cx.1 cx.2.1 dX12_goes_107 (lv_at hl 5 rfl) ?_
        refine z_ci cx hp (fun o' hx => zrunV (n := 3) (As := [.int (ii u1), .int (ii u4)]) (rest := []) cx hp (mX12_arity F l g B h u0 u1 u4 ru0 ru1 ru4 o' hx) 12 ru0 (by decide) rfl vw_X12_arity ml_X12_129 (by decide) rfl hl.1 rfl (Nat.le_of_ble_eq_true rfl) dX12_goes_109) hf (fun r8 h H locs rr8 hp hf => ?_)
        refine z_iconst cx dX12_goes_112 ?_
        refine z_jn hf (fun j => ∀ (x127_8 : Int) (x127_9 : Int) (x127_10 : Int) (y127_0 : Int) (h : HF) (H : Heap) (locs : List Loc) (ls : Array Slot), rng x127_8 → rng x127_9 → rng x127_10 → rng y127_0 → Hp g B s h H locs → lv_has ls 12 [(0, .ref (B + u0)), (1, .int (ii u1)), (2, .int (ii u2)), (3, .int (ii u3)), (4, .int (ii u4)), (5, .int (ii u5)), (6, .int (ii u6)), (7, .int (ii u7)), (8, .int (ii x127_8)), (9, .int (ii x127_9)), (10, .int (ii x127_10))] → j x127_8 x127_9 x127_10 y127_0 h = some o → W p l e (rmn 3) s m args below meth c H locs 0 0 Q (F0 m 127 ls [.int (ii y127_0)])) ?_ (fun j127 hj127 hf => ?_)
        · intro x127_8 x127_9 x127_10 y127_0 h H locs ls rx127_8 rx127_9 rx127_10 ry127_0 hp hl hf
          refine lv_istore (lv' := [(11, .int (ii y127_0)), (0, .ref (B + u0)), (1, .int (ii u1)), (2, .int (ii u2)), (3, .int (ii u3)), (4, .int (ii u4)), (5, .int (ii u5)), (6, .int (ii u6)), (7, .int (ii u7)), (8, .int (ii x127_8)), (9, .int (ii x127_9)), (10, .int (ii x127_10))]) cx.1 cx.2.1 dX12_goes_127 hl (by decide) rfl (fun ls hl => ?_)
          refine lv_iload cx.1 cx.2.1 dX12_goes_129 (lv_at hl 10 rfl) ?_
          refine lv_iload_n cx.1 cx.2.1 dX12_goes_131 rfl (lv_at hl 4 rfl) ?_
          refine z_jn hf (fun j => ∀ (x158_8 : Int) (h : HF) (H : Heap) (locs : List Loc) (ls : Array Slot), rng x158_8 → Hp g B s h H locs → lv_has ls 12 [(0, .ref (B + u0)), (1, .int (ii u1)), (2, .int (ii u2)), (3, .int (ii u3)), (4, .int (ii u4)), (5, .int (ii u5)), (6, .int (ii u6)), (7, .int (ii u7)), (8, .int (ii x158_8))] → j x158_8 h = some o → W p l e (rmn 3) s m args below meth c H locs 0 0 Q (F0 m 158 ls [])) ?_ (fun j158 hj158 hf => ?_)
          · intro x158_8 h H locs ls rx158_8 hp hl hf
            refine z_iinc cx (fun x9 => [(8, .int (ii x9)), (0, .ref (B + u0)), (1, .int (ii u1)), (2, .int (ii u2)), (3, .int (ii u3)), (4, .int (ii u4)), (5, .int (ii u5)), (6, .int (ii u6)), (7, .int (ii u7))]) dX12_goes_158 hl (k := 8) rfl (by decide) (fun _ => rfl) hf (fun x9 rx9 hf ls hl => ?_)
            refine lv_goto (tgt := 62) cx.1 cx.2.1 dX12_goes_161 (by decide) ?_
            exact ih x9 h _ _ ls rx9 hp (lv_sub hl [1, 2, 3, 4, 5, 6, 7, 8, 0] rfl) hf
          refine z_icmp_ge cx rx127_9 ru3 (tgt := 158) dX12_goes_132 (by decide) hf (fun _ hf => ?_) (fun _ hf => ?_)
          · refine lv_aload_n cx.1 cx.2.1 dX12_goes_135 rfl (lv_at hl 1 rfl) ?_
            refine z_gets cx hp (T := TX12) 12 46 (u0 + 29) rfl zin_12 (by decide) (by decide) ru0 rfl fl_X12_94 dX12_goes_136 ?_
            refine lv_iload cx.1 cx.2.1 dX12_goes_139 (lv_at hl 10 rfl) ?_
            refine z_iald cx hp (zs_12_46 u0 (kt_lt ru0 (by decide)) ru0) rx127_9 dX12_goes_141 hf (fun x10 rx10 hf => ?_)
            refine lv_aload_n cx.1 cx.2.1 dX12_goes_142 rfl (lv_at hl 1 rfl) ?_
            refine lv_iload_n cx.1 cx.2.1 dX12_goes_143 rfl (lv_at hl 3 rfl) ?_
            refine lv_iload cx.1 cx.2.1 dX12_goes_144 (lv_at hl 5 rfl) ?_
            refine lv_iload cx.1 cx.2.1 dX12_goes_146 (lv_at hl 11 rfl) ?_
            refine lv_iload cx.1 cx.2.1 dX12_goes_148 (lv_at hl 0 rfl) ?_
            refine z_ci cx hp (fun o' hx => zrunV (n := 3) (As := [.int (ii u2), .int (ii u4), .int (ii x127_10), .int (ii y127_0)]) (rest := [.int (ii x10)]) cx hp (mX12_value F l g B h u0 u2 u4 x127_10 y127_0 ru0 ru2 ru4 rx127_10 ry127_0 o' hx) 12 ru0 (by decide) rfl vw_X12_value ml_X12_178 (by decide) rfl hl.1 rfl (Nat.le_of_ble_eq_true rfl) dX12_goes_150) hf (fun r11 h H locs rr11 hp hf => ?_)
            refine z_icmp_eq cx rx10 rr11 (tgt := 158) dX12_goes_153 (by decide) hf (fun _ hf => ?_) (fun _ hf => ?_)
            · exact hj158 x127_8 h _ _ ls rx127_8 hp (lv_sub hl [1, 2, 3, 4, 5, 6, 7, 8, 9] rfl) hf
            · exact hk156  h _ _ ls  hp (lv_sub hl [] rfl) hf
          · exact hj158 x127_8 h _ _ ls rx127_8 hp (lv_sub hl [1, 2, 3, 4, 5, 6, 7, 8, 9] rfl) hf
        refine z_icmp_le cx rr8 (by decide) (tgt := 126) dX12_goes_113 (by decide) hf (fun _ hf => ?_) (fun _ hf => ?_)
        · refine lv_aload_n cx.1 cx.2.1 dX12_goes_116 rfl (lv_at hl 1 rfl) ?_
          refine z_gets cx hp (T := TX12) 12 46 (u0 + 29) rfl zin_12 (by decide) (by decide) ru0 rfl fl_X12_94 dX12_goes_117 ?_
          refine lv_iload cx.1 cx.2.1 dX12_goes_120 (lv_at hl 9 rfl) ?_
          refine z_iald cx hp (zs_12_46 u0 (kt_lt ru0 (by decide)) ru0) rx103_8 dX12_goes_122 hf (fun x12 rx12 hf => ?_)
          refine lv_goto (tgt := 127) cx.1 cx.2.1 dX12_goes_123 (by decide) ?_
          exact hj127 x103_8 x103_9 y103_0 x12 h _ _ ls rx103_8 rx103_9 ry103_0 rx12 hp (lv_sub hl [1, 2, 3, 4, 5, 6, 7, 8, 9, 10, 0] rfl) hf
        · refine z_iconst cx dX12_goes_126 ?_
          exact hj127 x103_8 x103_9 y103_0 0 h _ _ ls rx103_8 rx103_9 ry103_0 (by decide) hp (lv_sub hl [1, 2, 3, 4, 5, 6, 7, 8, 9, 10, 0] rfl) hf
      refine z_if_le cx rr7 (tgt := 102) dX12_goes_89 (by decide) hf (fun _ hf => ?_) (fun _ hf => ?_)
      · refine lv_aload_n cx.1 cx.2.1 dX12_goes_92 rfl (lv_at hl 1 rfl) ?_
        refine z_gets cx hp (T := TX12) 12 46 (u0 + 29) rfl zin_12 (by decide) (by decide) ru0 rfl fl_X12_94 dX12_goes_93 ?_
        refine lv_iload cx.1 cx.2.1 dX12_goes_96 (lv_at hl 8 rfl) ?_
        refine z_iald cx hp (zs_12_46 u0 (kt_lt ru0 (by decide)) ru0) ru7 dX12_goes_98 hf (fun x13 rx13 hf => ?_)
        refine lv_goto (tgt := 103) cx.1 cx.2.1 dX12_goes_99 (by decide) ?_
        exact hj103 v8 r6 x13 h _ _ ls rv8 rr6 rx13 hp (lv_sub hl [1, 2, 3, 4, 5, 6, 7, 8, 9, 0] rfl) hf
      · refine z_iconst cx dX12_goes_102 ?_
        exact hj103 v8 r6 0 h _ _ ls rv8 rr6 (by decide) hp (lv_sub hl [1, 2, 3, 4, 5, 6, 7, 8, 9, 0] rfl) hf
    · exact hk164 u7 h _ _ ls ru7 hp (lv_sub hl [0, 1, 2, 3, 4, 5, 6, 7] rfl) hf
def LX12_goes_52 (F : Nat) (u0 : Nat) (u1 : Int) (u2 : Int) (u3 : Int) (u4 : Int) (u5 : Int) (u6 : Int) (k170 : Int → HF → RO) (k156 : HF → RO) : Nat → Int → HF → RO
  | 0, _, _ => none
  | n + 1, v7, h =>
    if v7 < u5 then (
      zjn (fun (x164_7 : Int) (h : HF) => (
        zlet (wr (x164_7 + 1)) fun x5 =>
        LX12_goes_52 F u0 u1 u2 u3 u4 u5 u6 k170 k156 n x5 h
      )) fun j164 =>
      LX12_goes_62 F u0 u1 u2 u3 u4 u5 u6 v7 j164 k156 F 0 h
    ) else (
      k170 u4 h
    )
set_option maxHeartbeats 4000000 in
set_option maxRecDepth 100000 in
theorem wX12_goes_52 {p : Program} {l : Launch} {e : Env} {s : State} {m : MethodId} {args : Array Value} {below : List Frame} {meth : Method} {c : Code} {Q : State → Prop} {g : zG} {B : Nat} {o : Int × HF} (F : Nat) (cx : Cx p s m args meth c cX12_goes 12 RX12 (some .boolean) g B) (u0 : Nat) (ru0 : kt u0 = 15) (u1 : Int) (ru1 : rng u1) (u2 : Int) (ru2 : rng u2) (u3 : Int) (ru3 : rng u3) (u4 : Int) (ru4 : rng u4) (u5 : Int) (ru5 : rng u5) (u6 : Int) (ru6 : rng u6) (k170 : Int → HF → RO) (hk170 : ∀ (x4 : Int) (h : HF) (H : Heap) (locs : List Loc) (ls : Array Slot), rng x4 → Hp g B s h H locs → lv_has ls 12 [(0, .ref (B + u0)), (1, .int (ii u1)), (2, .int (ii u2)), (3, .int (ii u3)), (4, .int (ii x4))] → k170 x4 h = some o → W p l e (rmn 3) s m args below meth c H locs 0 0 Q (F0 m 170 ls [])) (k156 : HF → RO) (hk156 : ∀  (h : HF) (H : Heap) (locs : List Loc) (ls : Array Slot), Hp g B s h H locs → lv_has ls 12 [] → k156  h = some o → W p l e (rmn 3) s m args below meth c H locs 0 0 Q (F0 m 156 ls [])) : ∀ (n : Nat) (v7 : Int) (h : HF) (H : Heap) (locs : List Loc) (ls : Array Slot), rng v7 → Hp g B s h H locs → lv_has ls 12 [(0, .ref (B + u0)), (1, .int (ii u1)), (2, .int (ii u2)), (3, .int (ii u3)), (4, .int (ii u4)), (5, .int (ii u5)), (6, .int (ii u6)), (7, .int (ii v7))] → LX12_goes_52 F u0 u1 u2 u3 u4 u5 u6 k170 k156 n v7 h = some o → W p l e (rmn 3) s m args below meth c H locs 0 0 Q (F0 m 52 ls []) := by
  intro n
  induction n with
  | zero =>
    intro v7 h H locs ls rv7 hp hl hf
    cases hf
  | succ n ih =>
    intro v7 h H locs ls rv7 hp hl hf
    rw [LX12_goes_52] at hf
    refine lv_iload cx.1 cx.2.1 dX12_goes_52 (lv_at hl 7 rfl) ?_
    refine lv_iload cx.1 cx.2.1 dX12_goes_54 (lv_at hl 5 rfl) ?_
    refine z_icmp_ge cx rv7 ru5 (tgt := 170) dX12_goes_56 (by decide) hf (fun _ hf => ?_) (fun _ hf => ?_)
    · refine z_iconst cx dX12_goes_59 ?_
      refine lv_istore (lv' := [(8, .int (ii 0)), (0, .ref (B + u0)), (1, .int (ii u1)), (2, .int (ii u2)), (3, .int (ii u3)), (4, .int (ii u4)), (5, .int (ii u5)), (6, .int (ii u6)), (7, .int (ii v7))]) cx.1 cx.2.1 dX12_goes_60 hl (by decide) rfl (fun ls hl => ?_)
      refine z_jn hf (fun j => ∀ (x164_7 : Int) (h : HF) (H : Heap) (locs : List Loc) (ls : Array Slot), rng x164_7 → Hp g B s h H locs → lv_has ls 12 [(0, .ref (B + u0)), (1, .int (ii u1)), (2, .int (ii u2)), (3, .int (ii u3)), (4, .int (ii u4)), (5, .int (ii u5)), (6, .int (ii u6)), (7, .int (ii x164_7))] → j x164_7 h = some o → W p l e (rmn 3) s m args below meth c H locs 0 0 Q (F0 m 164 ls [])) ?_ (fun j164 hj164 hf => ?_)
      · intro x164_7 h H locs ls rx164_7 hp hl hf
        refine z_iinc cx (fun x5 => [(7, .int (ii x5)), (0, .ref (B + u0)), (1, .int (ii u1)), (2, .int (ii u2)), (3, .int (ii u3)), (4, .int (ii u4)), (5, .int (ii u5)), (6, .int (ii u6))]) dX12_goes_164 hl (k := 7) rfl (by decide) (fun _ => rfl) hf (fun x5 rx5 hf ls hl => ?_)
        refine lv_goto (tgt := 52) cx.1 cx.2.1 dX12_goes_167 (by decide) ?_
        exact ih x5 h _ _ ls rx5 hp (lv_sub hl [1, 2, 3, 4, 5, 6, 7, 0] rfl) hf
      exact wX12_goes_62 F cx u0 ru0 u1 ru1 u2 ru2 u3 ru3 u4 ru4 u5 ru5 u6 ru6 v7 rv7 j164 hj164 k156 hk156 F 0 h _ _ ls (by decide) hp (lv_sub hl [1, 2, 3, 4, 5, 6, 7, 8, 0] rfl) hf
    · exact hk170 u4 h _ _ ls ru4 hp (lv_sub hl [0, 1, 2, 3, 4] rfl) hf
def LX12_goes_3 (F : Nat) (u0 : Nat) (u1 : Int) (u2 : Int) (u3 : Int) (k176 : HF → RO) (k156 : HF → RO) : Nat → Int → HF → RO
  | 0, _, _ => none
  | n + 1, v4, h =>
    zrd h (u0 + 4) u1 fun x1 =>
    if v4 < x1 then (
      zbd (fX12_arity F u0 u1 v4 h) fun r2 h =>
      zjn (fun (x29_4 : Int) (y29_0 : Int) (h : HF) => (
        zbd (fX12_arity F u0 u1 x29_4 h) fun r3 h =>
        zjn (fun (x47_4 : Int) (x47_5 : Int) (y47_0 : Int) (h : HF) => (
          zjn (fun (x170_4 : Int) (h : HF) => (
            zlet (wr (x170_4 + 1)) fun x4 =>
            LX12_goes_3 F u0 u1 u2 u3 k176 k156 n x4 h
          )) fun j170 =>
          LX12_goes_52 F u0 u1 u2 u3 x47_4 x47_5 y47_0 j170 k156 F 0 h
        )) fun j47 =>
        if 1 < r3 then (
          j47 x29_4 y29_0 u3 h
        ) else (
          j47 x29_4 y29_0 1 h
        )
      )) fun j29 =>
      if 0 < r2 then (
        j29 v4 u3 h
      ) else (
        j29 v4 1 h
      )
    ) else (
      k176  h
    )
set_option maxHeartbeats 4000000 in
set_option maxRecDepth 100000 in
theorem wX12_goes_3 {p : Program} {l : Launch} {e : Env} {s : State} {m : MethodId} {args : Array Value} {below : List Frame} {meth : Method} {c : Code} {Q : State → Prop} {g : zG} {B : Nat} {o : Int × HF} (F : Nat) (cx : Cx p s m args meth c cX12_goes 12 RX12 (some .boolean) g B) (u0 : Nat) (ru0 : kt u0 = 15) (u1 : Int) (ru1 : rng u1) (u2 : Int) (ru2 : rng u2) (u3 : Int) (ru3 : rng u3) (k176 : HF → RO) (hk176 : ∀  (h : HF) (H : Heap) (locs : List Loc) (ls : Array Slot), Hp g B s h H locs → lv_has ls 12 [] → k176  h = some o → W p l e (rmn 3) s m args below meth c H locs 0 0 Q (F0 m 176 ls [])) (k156 : HF → RO) (hk156 : ∀  (h : HF) (H : Heap) (locs : List Loc) (ls : Array Slot), Hp g B s h H locs → lv_has ls 12 [] → k156  h = some o → W p l e (rmn 3) s m args below meth c H locs 0 0 Q (F0 m 156 ls [])) : ∀ (n : Nat) (v4 : Int) (h : HF) (H : Heap) (locs : List Loc) (ls : Array Slot), rng v4 → Hp g B s h H locs → lv_has ls 12 [(0, .ref (B + u0)), (1, .int (ii u1)), (2, .int (ii u2)), (3, .int (ii u3)), (4, .int (ii v4))] → LX12_goes_3 F u0 u1 u2 u3 k176 k156 n v4 h = some o → W p l e (rmn 3) s m args below meth c H locs 0 0 Q (F0 m 3 ls []) := by
  intro n
  induction n with
  | zero =>
    intro v4 h H locs ls rv4 hp hl hf
    cases hf
  | succ n ih =>
    intro v4 h H locs ls rv4 hp hl hf
    rw [LX12_goes_3] at hf
    refine lv_iload cx.1 cx.2.1 dX12_goes_3 (lv_at hl 4 rfl) ?_
    refine lv_aload_n cx.1 cx.2.1 dX12_goes_5 rfl (lv_at hl 0 rfl) ?_
    refine z_gets cx hp (T := TX12) 12 7 (u0 + 4) rfl zin_12 (by decide) (by decide) ru0 rfl fl_X12_19 dX12_goes_6 ?_
    refine lv_iload_n cx.1 cx.2.1 dX12_goes_9 rfl (lv_at hl 1 rfl) ?_
    refine z_iald cx hp (zs_12_7 u0 (kt_lt ru0 (by decide)) ru0) ru1 dX12_goes_10 hf (fun x1 rx1 hf => ?_)
    refine z_icmp_ge cx rv4 rx1 (tgt := 176) dX12_goes_11 (by decide) hf (fun _ hf => ?_) (fun _ hf => ?_)
    · refine lv_aload_n cx.1 cx.2.1 dX12_goes_14 rfl (lv_at hl 0 rfl) ?_
      refine lv_iload_n cx.1 cx.2.1 dX12_goes_15 rfl (lv_at hl 1 rfl) ?_
      refine lv_iload cx.1 cx.2.1 dX12_goes_16 (lv_at hl 4 rfl) ?_
      refine z_ci cx hp (fun o' hx => zrunV (n := 3) (As := [.int (ii u1), .int (ii v4)]) (rest := []) cx hp (mX12_arity F l g B h u0 u1 v4 ru0 ru1 rv4 o' hx) 12 ru0 (by decide) rfl vw_X12_arity ml_X12_129 (by decide) rfl hl.1 rfl (Nat.le_of_ble_eq_true rfl) dX12_goes_18) hf (fun r2 h H locs rr2 hp hf => ?_)
      refine z_jn hf (fun j => ∀ (x29_4 : Int) (y29_0 : Int) (h : HF) (H : Heap) (locs : List Loc) (ls : Array Slot), rng x29_4 → rng y29_0 → Hp g B s h H locs → lv_has ls 12 [(0, .ref (B + u0)), (1, .int (ii u1)), (2, .int (ii u2)), (3, .int (ii u3)), (4, .int (ii x29_4))] → j x29_4 y29_0 h = some o → W p l e (rmn 3) s m args below meth c H locs 0 0 Q (F0 m 29 ls [.int (ii y29_0)])) ?_ (fun j29 hj29 hf => ?_)
      · intro x29_4 y29_0 h H locs ls rx29_4 ry29_0 hp hl hf
        refine lv_istore (lv' := [(5, .int (ii y29_0)), (0, .ref (B + u0)), (1, .int (ii u1)), (2, .int (ii u2)), (3, .int (ii u3)), (4, .int (ii x29_4))]) cx.1 cx.2.1 dX12_goes_29 hl (by decide) rfl (fun ls hl => ?_)
        refine lv_aload_n cx.1 cx.2.1 dX12_goes_31 rfl (lv_at hl 1 rfl) ?_
        refine lv_iload_n cx.1 cx.2.1 dX12_goes_32 rfl (lv_at hl 2 rfl) ?_
        refine lv_iload cx.1 cx.2.1 dX12_goes_33 (lv_at hl 5 rfl) ?_
        refine z_ci cx hp (fun o' hx => zrunV (n := 3) (As := [.int (ii u1), .int (ii x29_4)]) (rest := []) cx hp (mX12_arity F l g B h u0 u1 x29_4 ru0 ru1 rx29_4 o' hx) 12 ru0 (by decide) rfl vw_X12_arity ml_X12_129 (by decide) rfl hl.1 rfl (Nat.le_of_ble_eq_true rfl) dX12_goes_35) hf (fun r3 h H locs rr3 hp hf => ?_)
        refine z_iconst cx dX12_goes_38 ?_
        refine z_jn hf (fun j => ∀ (x47_4 : Int) (x47_5 : Int) (y47_0 : Int) (h : HF) (H : Heap) (locs : List Loc) (ls : Array Slot), rng x47_4 → rng x47_5 → rng y47_0 → Hp g B s h H locs → lv_has ls 12 [(0, .ref (B + u0)), (1, .int (ii u1)), (2, .int (ii u2)), (3, .int (ii u3)), (4, .int (ii x47_4)), (5, .int (ii x47_5))] → j x47_4 x47_5 y47_0 h = some o → W p l e (rmn 3) s m args below meth c H locs 0 0 Q (F0 m 47 ls [.int (ii y47_0)])) ?_ (fun j47 hj47 hf => ?_)
        · intro x47_4 x47_5 y47_0 h H locs ls rx47_4 rx47_5 ry47_0 hp hl hf
          refine lv_istore (lv' := [(6, .int (ii y47_0)), (0, .ref (B + u0)), (1, .int (ii u1)), (2, .int (ii u2)), (3, .int (ii u3)), (4, .int (ii x47_4)), (5, .int (ii x47_5))]) cx.1 cx.2.1 dX12_goes_47 hl (by decide) rfl (fun ls hl => ?_)
          refine z_iconst cx dX12_goes_49 ?_
          refine lv_istore (lv' := [(7, .int (ii 0)), (6, .int (ii y47_0)), (0, .ref (B + u0)), (1, .int (ii u1)), (2, .int (ii u2)), (3, .int (ii u3)), (4, .int (ii x47_4)), (5, .int (ii x47_5))]) cx.1 cx.2.1 dX12_goes_50 hl (by decide) rfl (fun ls hl => ?_)
          refine z_jn hf (fun j => ∀ (x170_4 : Int) (h : HF) (H : Heap) (locs : List Loc) (ls : Array Slot), rng x170_4 → Hp g B s h H locs → lv_has ls 12 [(0, .ref (B + u0)), (1, .int (ii u1)), (2, .int (ii u2)), (3, .int (ii u3)), (4, .int (ii x170_4))] → j x170_4 h = some o → W p l e (rmn 3) s m args below meth c H locs 0 0 Q (F0 m 170 ls [])) ?_ (fun j170 hj170 hf => ?_)
          · intro x170_4 h H locs ls rx170_4 hp hl hf
            refine z_iinc cx (fun x4 => [(4, .int (ii x4)), (0, .ref (B + u0)), (1, .int (ii u1)), (2, .int (ii u2)), (3, .int (ii u3))]) dX12_goes_170 hl (k := 4) rfl (by decide) (fun _ => rfl) hf (fun x4 rx4 hf ls hl => ?_)
            refine lv_goto (tgt := 3) cx.1 cx.2.1 dX12_goes_173 (by decide) ?_
            exact ih x4 h _ _ ls rx4 hp (lv_sub hl [1, 2, 3, 4, 0] rfl) hf
          exact wX12_goes_52 F cx u0 ru0 u1 ru1 u2 ru2 u3 ru3 x47_4 rx47_4 x47_5 rx47_5 y47_0 ry47_0 j170 hj170 k156 hk156 F 0 h _ _ ls (by decide) hp (lv_sub hl [2, 3, 4, 5, 6, 7, 1, 0] rfl) hf
        refine z_icmp_le cx rr3 (by decide) (tgt := 46) dX12_goes_39 (by decide) hf (fun _ hf => ?_) (fun _ hf => ?_)
        · refine lv_iload_n cx.1 cx.2.1 dX12_goes_42 rfl (lv_at hl 4 rfl) ?_
          refine lv_goto (tgt := 47) cx.1 cx.2.1 dX12_goes_43 (by decide) ?_
          exact hj47 x29_4 y29_0 u3 h _ _ ls rx29_4 ry29_0 ru3 hp (lv_sub hl [1, 2, 3, 4, 5, 0] rfl) hf
        · refine z_iconst cx dX12_goes_46 ?_
          exact hj47 x29_4 y29_0 1 h _ _ ls rx29_4 ry29_0 (by decide) hp (lv_sub hl [1, 2, 3, 4, 5, 0] rfl) hf
      refine z_if_le cx rr2 (tgt := 28) dX12_goes_21 (by decide) hf (fun _ hf => ?_) (fun _ hf => ?_)
      · refine lv_iload_n cx.1 cx.2.1 dX12_goes_24 rfl (lv_at hl 3 rfl) ?_
        refine lv_goto (tgt := 29) cx.1 cx.2.1 dX12_goes_25 (by decide) ?_
        exact hj29 v4 u3 h _ _ ls rv4 ru3 hp (lv_sub hl [0, 1, 2, 3, 4] rfl) hf
      · refine z_iconst cx dX12_goes_28 ?_
        exact hj29 v4 1 h _ _ ls rv4 (by decide) hp (lv_sub hl [0, 1, 2, 3, 4] rfl) hf
    · exact hk176  h _ _ ls  hp (lv_sub hl [] rfl) hf
def fX12_goes (F : Nat) (a0 : Nat) (a1 : Int) (a2 : Int) (a3 : Int) (h : HF) : RO :=
  zjn (fun  (h : HF) => (
    zrz 1 h
  )) fun j176 =>
  zjn (fun  (h : HF) => (
    zrz 0 h
  )) fun j156 =>
  LX12_goes_3 F a0 a1 a2 a3 j176 j156 F 0 h
set_option maxHeartbeats 4000000 in
set_option maxRecDepth 100000 in
theorem mX12_goes (F : Nat) (l : Launch) (g : zG) (B : Nat) (h : HF) (a0 : Nat) (a1 : Int) (a2 : Int) (a3 : Int) (ra0 : kt a0 = 15) (ra1 : rng a1) (ra2 : rng a2) (ra3 : rng a3) : CTi l g B yX12_goes cX12_goes 12 (some .boolean) 3 [.ref (B + a0), .int (ii a1), .int (ii a2), .int (ii a3)] h (fX12_goes F a0 a1 a2 a3 h) := by
  refine z_enterI (by decide) rfl (Nat.le_of_ble_eq_true rfl) ?_
  intro p e s m args below meth c ls o Q cx hp hl hf hQ
  have hl : lv_has ls 12 [(0, .ref (B + a0)), (1, .int (ii a1)), (2, .int (ii a2)), (3, .int (ii a3))] := hl
  unfold fX12_goes at hf
  refine z_iconst cx dX12_goes_0 ?_
  refine lv_istore (lv' := [(4, .int (ii 0)), (0, .ref (B + a0)), (1, .int (ii a1)), (2, .int (ii a2)), (3, .int (ii a3))]) cx.1 cx.2.1 dX12_goes_1 hl (by decide) rfl (fun ls hl => ?_)
  refine z_jn hf (fun j => ∀  (h : HF) (H : Heap) (locs : List Loc) (ls : Array Slot), Hp g B s h H locs → lv_has ls 12 [] → j  h = some o → W p l e (rmn 3) s m args below meth c H locs 0 0 Q (F0 m 176 ls [])) ?_ (fun j176 hj176 hf => ?_)
  · intro  h H locs ls  hp hl hf
    refine z_iconst cx dX12_goes_176 ?_
    rw [hQ]; exact z_zret cx hp dX12_goes_177 hf
  refine z_jn hf (fun j => ∀  (h : HF) (H : Heap) (locs : List Loc) (ls : Array Slot), Hp g B s h H locs → lv_has ls 12 [] → j  h = some o → W p l e (rmn 3) s m args below meth c H locs 0 0 Q (F0 m 156 ls [])) ?_ (fun j156 hj156 hf => ?_)
  · intro  h H locs ls  hp hl hf
    refine z_iconst cx dX12_goes_156 ?_
    rw [hQ]; exact z_zret cx hp dX12_goes_157 hf
  exact wX12_goes_3 F cx a0 ra0 a1 ra1 a2 ra2 a3 ra3 j176 hj176 j156 hj156 F 0 h _ _ ls (by decide) hp (lv_sub hl [1, 2, 3, 4, 0] rfl) hf
theorem dX12_isWhat_0 : decode cX12_isWhat 0 = .ok (.iconst 0, 1) := by decide +kernel
theorem dX12_isWhat_1 : decode cX12_isWhat 1 = .ok (.istore 4, 2) := by decide +kernel
theorem dX12_isWhat_3 : decode cX12_isWhat 3 = .ok (.iconst 1, 1) := by decide +kernel
theorem dX12_isWhat_4 : decode cX12_isWhat 4 = .ok (.istore 5, 2) := by decide +kernel
theorem dX12_isWhat_6 : decode cX12_isWhat 6 = .ok (.iconst 0, 1) := by decide +kernel
theorem dX12_isWhat_7 : decode cX12_isWhat 7 = .ok (.istore 6, 2) := by decide +kernel
theorem dX12_isWhat_9 : decode cX12_isWhat 9 = .ok (.iload 6, 2) := by decide +kernel
theorem dX12_isWhat_11 : decode cX12_isWhat 11 = .ok (.aload_n 0, 1) := by decide +kernel
theorem dX12_isWhat_12 : decode cX12_isWhat 12 = .ok (.getfield 16, 3) := by decide +kernel
theorem dX12_isWhat_15 : decode cX12_isWhat 15 = .ok (.iload_n 1, 1) := by decide +kernel
theorem dX12_isWhat_16 : decode cX12_isWhat 16 = .ok (.iaload, 1) := by decide +kernel
theorem dX12_isWhat_17 : decode cX12_isWhat 17 = .ok (.if_icmp .ge 50, 3) := by decide +kernel
theorem dX12_isWhat_20 : decode cX12_isWhat 20 = .ok (.iload 5, 2) := by decide +kernel
theorem dX12_isWhat_22 : decode cX12_isWhat 22 = .ok (.ifCond .eq 22, 3) := by decide +kernel
theorem dX12_isWhat_25 : decode cX12_isWhat 25 = .ok (.iload 4, 2) := by decide +kernel
theorem dX12_isWhat_27 : decode cX12_isWhat 27 = .ok (.aload_n 0, 1) := by decide +kernel
theorem dX12_isWhat_28 : decode cX12_isWhat 28 = .ok (.getfield 94, 3) := by decide +kernel
theorem dX12_isWhat_31 : decode cX12_isWhat 31 = .ok (.iload 6, 2) := by decide +kernel
theorem dX12_isWhat_33 : decode cX12_isWhat 33 = .ok (.iaload, 1) := by decide +kernel
theorem dX12_isWhat_34 : decode cX12_isWhat 34 = .ok (.ishr, 1) := by decide +kernel
theorem dX12_isWhat_35 : decode cX12_isWhat 35 = .ok (.iconst 1, 1) := by decide +kernel
theorem dX12_isWhat_36 : decode cX12_isWhat 36 = .ok (.iand, 1) := by decide +kernel
theorem dX12_isWhat_37 : decode cX12_isWhat 37 = .ok (.ifCond .ne 7, 3) := by decide +kernel
theorem dX12_isWhat_40 : decode cX12_isWhat 40 = .ok (.iconst 1, 1) := by decide +kernel
theorem dX12_isWhat_41 : decode cX12_isWhat 41 = .ok (.goto 4, 3) := by decide +kernel
theorem dX12_isWhat_44 : decode cX12_isWhat 44 = .ok (.iconst 0, 1) := by decide +kernel
theorem dX12_isWhat_45 : decode cX12_isWhat 45 = .ok (.istore 5, 2) := by decide +kernel
theorem dX12_isWhat_47 : decode cX12_isWhat 47 = .ok (.iload 4, 2) := by decide +kernel
theorem dX12_isWhat_49 : decode cX12_isWhat 49 = .ok (.iconst 1, 1) := by decide +kernel
theorem dX12_isWhat_50 : decode cX12_isWhat 50 = .ok (.aload_n 0, 1) := by decide +kernel
theorem dX12_isWhat_51 : decode cX12_isWhat 51 = .ok (.getfield 94, 3) := by decide +kernel
theorem dX12_isWhat_54 : decode cX12_isWhat 54 = .ok (.iload 6, 2) := by decide +kernel
theorem dX12_isWhat_56 : decode cX12_isWhat 56 = .ok (.iaload, 1) := by decide +kernel
theorem dX12_isWhat_57 : decode cX12_isWhat 57 = .ok (.ishl, 1) := by decide +kernel
theorem dX12_isWhat_58 : decode cX12_isWhat 58 = .ok (.ior, 1) := by decide +kernel
theorem dX12_isWhat_59 : decode cX12_isWhat 59 = .ok (.istore 4, 2) := by decide +kernel
theorem dX12_isWhat_61 : decode cX12_isWhat 61 = .ok (.iinc 6 1, 3) := by decide +kernel
theorem dX12_isWhat_64 : decode cX12_isWhat 64 = .ok (.goto (-55), 3) := by decide +kernel
theorem dX12_isWhat_67 : decode cX12_isWhat 67 = .ok (.iload 4, 2) := by decide +kernel
theorem dX12_isWhat_69 : decode cX12_isWhat 69 = .ok (.iconst 1, 1) := by decide +kernel
theorem dX12_isWhat_70 : decode cX12_isWhat 70 = .ok (.aload_n 0, 1) := by decide +kernel
theorem dX12_isWhat_71 : decode cX12_isWhat 71 = .ok (.getfield 16, 3) := by decide +kernel
theorem dX12_isWhat_74 : decode cX12_isWhat 74 = .ok (.iload_n 2, 1) := by decide +kernel
theorem dX12_isWhat_75 : decode cX12_isWhat 75 = .ok (.iaload, 1) := by decide +kernel
theorem dX12_isWhat_76 : decode cX12_isWhat 76 = .ok (.ishl, 1) := by decide +kernel
theorem dX12_isWhat_77 : decode cX12_isWhat 77 = .ok (.iconst 1, 1) := by decide +kernel
theorem dX12_isWhat_78 : decode cX12_isWhat 78 = .ok (.isub, 1) := by decide +kernel
theorem dX12_isWhat_79 : decode cX12_isWhat 79 = .ok (.if_icmp .ne 7, 3) := by decide +kernel
theorem dX12_isWhat_82 : decode cX12_isWhat 82 = .ok (.iconst 1, 1) := by decide +kernel
theorem dX12_isWhat_83 : decode cX12_isWhat 83 = .ok (.goto 4, 3) := by decide +kernel
theorem dX12_isWhat_86 : decode cX12_isWhat 86 = .ok (.iconst 0, 1) := by decide +kernel
theorem dX12_isWhat_87 : decode cX12_isWhat 87 = .ok (.istore 6, 2) := by decide +kernel
theorem dX12_isWhat_89 : decode cX12_isWhat 89 = .ok (.iload_n 3, 1) := by decide +kernel
theorem dX12_isWhat_90 : decode cX12_isWhat 90 = .ok (.iconst 2, 1) := by decide +kernel
theorem dX12_isWhat_91 : decode cX12_isWhat 91 = .ok (.irem, 1) := by decide +kernel
theorem dX12_isWhat_92 : decode cX12_isWhat 92 = .ok (.ifCond .eq 8, 3) := by decide +kernel
theorem dX12_isWhat_95 : decode cX12_isWhat 95 = .ok (.iload 5, 2) := by decide +kernel
theorem dX12_isWhat_97 : decode cX12_isWhat 97 = .ok (.ifCond .eq 17, 3) := by decide +kernel
theorem dX12_isWhat_100 : decode cX12_isWhat 100 = .ok (.iload_n 3, 1) := by decide +kernel
theorem dX12_isWhat_101 : decode cX12_isWhat 101 = .ok (.iconst 2, 1) := by decide +kernel
theorem dX12_isWhat_102 : decode cX12_isWhat 102 = .ok (.if_icmp .lt 8, 3) := by decide +kernel
theorem dX12_isWhat_105 : decode cX12_isWhat 105 = .ok (.iload 6, 2) := by decide +kernel
theorem dX12_isWhat_107 : decode cX12_isWhat 107 = .ok (.ifCond .eq 7, 3) := by decide +kernel
theorem dX12_isWhat_114 : decode cX12_isWhat 114 = .ok (.iconst 0, 1) := by decide +kernel
theorem dX12_isWhat_110 : decode cX12_isWhat 110 = .ok (.iconst 1, 1) := by decide +kernel
theorem dX12_isWhat_111 : decode cX12_isWhat 111 = .ok (.goto 4, 3) := by decide +kernel
theorem dX12_isWhat_115 : decode cX12_isWhat 115 = .ok (.ireturn, 1) := by decide +kernel
def LX12_isWhat_9 (F : Nat) (u0 : Nat) (u1 : Int) (u2 : Int) (u3 : Int) (k67 : Int → Int → HF → RO) : Nat → Int → Int → Int → HF → RO
  | 0, _, _, _, _ => none
  | n + 1, v4, v5, v6, h =>
    zrd h (u0 + 3) u1 fun x2 =>
    if v6 < x2 then (
      zjn (fun (x45_4 : Int) (x45_6 : Int) (y45_0 : Int) (h : HF) => (
        zrd h (u0 + 29) x45_6 fun x3 =>
        zlet (wor x45_4 (wshl 1 x3)) fun x4 =>
        zlet (wr (x45_6 + 1)) fun x5 =>
        LX12_isWhat_9 F u0 u1 u2 u3 k67 n x4 y45_0 x5 h
      )) fun j45 =>
      zjn (fun (x44_4 : Int) (x44_6 : Int) (h : HF) => (
        j45 x44_4 x44_6 0 h
      )) fun j44 =>
      if v5 = 0 then (
        j44 v4 v6 h
      ) else (
        zrd h (u0 + 29) v6 fun x6 =>
        if wand (wshr v4 x6) 1 = 0 then (
          j45 v4 v6 1 h
        ) else (
          j44 v4 v6 h
        )
      )
    ) else (
      k67 v4 v5 h
    )
set_option maxHeartbeats 4000000 in
set_option maxRecDepth 100000 in
theorem wX12_isWhat_9 {p : Program} {l : Launch} {e : Env} {s : State} {m : MethodId} {args : Array Value} {below : List Frame} {meth : Method} {c : Code} {Q : State → Prop} {g : zG} {B : Nat} {o : Int × HF} (F : Nat) (cx : Cx p s m args meth c cX12_isWhat 7 RX12 (some .boolean) g B) (u0 : Nat) (ru0 : kt u0 = 15) (u1 : Int) (ru1 : rng u1) (u2 : Int) (ru2 : rng u2) (u3 : Int) (ru3 : rng u3) (k67 : Int → Int → HF → RO) (hk67 : ∀ (x4 : Int) (x5 : Int) (h : HF) (H : Heap) (locs : List Loc) (ls : Array Slot), rng x4 → rng x5 → Hp g B s h H locs → lv_has ls 7 [(0, .ref (B + u0)), (2, .int (ii u2)), (3, .int (ii u3)), (4, .int (ii x4)), (5, .int (ii x5))] → k67 x4 x5 h = some o → W p l e (rmn 0) s m args below meth c H locs 0 0 Q (F0 m 67 ls [])) : ∀ (n : Nat) (v4 : Int) (v5 : Int) (v6 : Int) (h : HF) (H : Heap) (locs : List Loc) (ls : Array Slot), rng v4 → rng v5 → rng v6 → Hp g B s h H locs → lv_has ls 7 [(0, .ref (B + u0)), (1, .int (ii u1)), (2, .int (ii u2)), (3, .int (ii u3)), (4, .int (ii v4)), (5, .int (ii v5)), (6, .int (ii v6))] → LX12_isWhat_9 F u0 u1 u2 u3 k67 n v4 v5 v6 h = some o → W p l e (rmn 0) s m args below meth c H locs 0 0 Q (F0 m 9 ls []) := by
  intro n
  induction n with
  | zero =>
    intro v4 v5 v6 h H locs ls rv4 rv5 rv6 hp hl hf
    cases hf
  | succ n ih =>
    intro v4 v5 v6 h H locs ls rv4 rv5 rv6 hp hl hf
    rw [LX12_isWhat_9] at hf
    refine lv_iload cx.1 cx.2.1 dX12_isWhat_9 (lv_at hl 6 rfl) ?_
    refine lv_aload_n cx.1 cx.2.1 dX12_isWhat_11 rfl (lv_at hl 0 rfl) ?_
    refine z_gets cx hp (T := TX12) 12 6 (u0 + 3) rfl zin_12 (by decide) (by decide) ru0 rfl fl_X12_16 dX12_isWhat_12 ?_
    refine lv_iload_n cx.1 cx.2.1 dX12_isWhat_15 rfl (lv_at hl 1 rfl) ?_
    refine z_iald cx hp (zs_12_6 u0 (kt_lt ru0 (by decide)) ru0) ru1 dX12_isWhat_16 hf (fun x2 rx2 hf => ?_)
    refine z_icmp_ge cx rv6 rx2 (tgt := 67) dX12_isWhat_17 (by decide) hf (fun _ hf => ?_) (fun _ hf => ?_)
    · refine lv_iload cx.1 cx.2.1 dX12_isWhat_20 (lv_at hl 5 rfl) ?_
      refine z_jn hf (fun j => ∀ (x45_4 : Int) (x45_6 : Int) (y45_0 : Int) (h : HF) (H : Heap) (locs : List Loc) (ls : Array Slot), rng x45_4 → rng x45_6 → rng y45_0 → Hp g B s h H locs → lv_has ls 7 [(0, .ref (B + u0)), (1, .int (ii u1)), (2, .int (ii u2)), (3, .int (ii u3)), (4, .int (ii x45_4)), (6, .int (ii x45_6))] → j x45_4 x45_6 y45_0 h = some o → W p l e (rmn 0) s m args below meth c H locs 0 0 Q (F0 m 45 ls [.int (ii y45_0)])) ?_ (fun j45 hj45 hf => ?_)
      · intro x45_4 x45_6 y45_0 h H locs ls rx45_4 rx45_6 ry45_0 hp hl hf
        refine lv_istore (lv' := [(5, .int (ii y45_0)), (0, .ref (B + u0)), (1, .int (ii u1)), (2, .int (ii u2)), (3, .int (ii u3)), (4, .int (ii x45_4)), (6, .int (ii x45_6))]) cx.1 cx.2.1 dX12_isWhat_45 hl (by decide) rfl (fun ls hl => ?_)
        refine lv_iload cx.1 cx.2.1 dX12_isWhat_47 (lv_at hl 5 rfl) ?_
        refine z_iconst cx dX12_isWhat_49 ?_
        refine lv_aload_n cx.1 cx.2.1 dX12_isWhat_50 rfl (lv_at hl 1 rfl) ?_
        refine z_gets cx hp (T := TX12) 12 46 (u0 + 29) rfl zin_12 (by decide) (by decide) ru0 rfl fl_X12_94 dX12_isWhat_51 ?_
        refine lv_iload cx.1 cx.2.1 dX12_isWhat_54 (lv_at hl 6 rfl) ?_
        refine z_iald cx hp (zs_12_46 u0 (kt_lt ru0 (by decide)) ru0) rx45_6 dX12_isWhat_56 hf (fun x3 rx3 hf => ?_)
        refine z_ishl cx dX12_isWhat_57 ?_
        refine z_ior cx dX12_isWhat_58 ?_
        refine z_let (rng_or _ _) hf (fun x4 rx4 hf => ?_)
        refine lv_istore (lv' := [(4, .int (ii x4)), (5, .int (ii y45_0)), (0, .ref (B + u0)), (1, .int (ii u1)), (2, .int (ii u2)), (3, .int (ii u3)), (6, .int (ii x45_6))]) cx.1 cx.2.1 dX12_isWhat_59 hl (by decide) rfl (fun ls hl => ?_)
        refine z_iinc cx (fun x5 => [(6, .int (ii x5)), (4, .int (ii x4)), (5, .int (ii y45_0)), (0, .ref (B + u0)), (1, .int (ii u1)), (2, .int (ii u2)), (3, .int (ii u3))]) dX12_isWhat_61 hl (k := 6) rfl (by decide) (fun _ => rfl) hf (fun x5 rx5 hf ls hl => ?_)
        refine lv_goto (tgt := 9) cx.1 cx.2.1 dX12_isWhat_64 (by decide) ?_
        exact ih x4 y45_0 x5 h _ _ ls rx4 ry45_0 rx5 hp (lv_sub hl [3, 4, 5, 6, 1, 2, 0] rfl) hf
      refine z_jn hf (fun j => ∀ (x44_4 : Int) (x44_6 : Int) (h : HF) (H : Heap) (locs : List Loc) (ls : Array Slot), rng x44_4 → rng x44_6 → Hp g B s h H locs → lv_has ls 7 [(0, .ref (B + u0)), (1, .int (ii u1)), (2, .int (ii u2)), (3, .int (ii u3)), (4, .int (ii x44_4)), (6, .int (ii x44_6))] → j x44_4 x44_6 h = some o → W p l e (rmn 0) s m args below meth c H locs 0 0 Q (F0 m 44 ls [])) ?_ (fun j44 hj44 hf => ?_)
      · intro x44_4 x44_6 h H locs ls rx44_4 rx44_6 hp hl hf
        refine z_iconst cx dX12_isWhat_44 ?_
        exact hj45 x44_4 x44_6 0 h _ _ ls rx44_4 rx44_6 (by decide) hp (lv_sub hl [0, 1, 2, 3, 4, 5] rfl) hf
      refine z_if_eq cx rv5 (tgt := 44) dX12_isWhat_22 (by decide) hf (fun _ hf => ?_) (fun _ hf => ?_)
      · exact hj44 v4 v6 h _ _ ls rv4 rv6 hp (lv_sub hl [0, 1, 2, 3, 4, 6] rfl) hf
      · refine lv_iload cx.1 cx.2.1 dX12_isWhat_25 (lv_at hl 4 rfl) ?_
        refine lv_aload_n cx.1 cx.2.1 dX12_isWhat_27 rfl (lv_at hl 0 rfl) ?_
        refine z_gets cx hp (T := TX12) 12 46 (u0 + 29) rfl zin_12 (by decide) (by decide) ru0 rfl fl_X12_94 dX12_isWhat_28 ?_
        refine lv_iload cx.1 cx.2.1 dX12_isWhat_31 (lv_at hl 6 rfl) ?_
        refine z_iald cx hp (zs_12_46 u0 (kt_lt ru0 (by decide)) ru0) rv6 dX12_isWhat_33 hf (fun x6 rx6 hf => ?_)
        refine z_ishr cx dX12_isWhat_34 ?_
        refine z_iconst cx dX12_isWhat_35 ?_
        refine z_iand cx dX12_isWhat_36 ?_
        refine z_if_ne cx (rng_and _ _) (tgt := 44) dX12_isWhat_37 (by decide) hf (fun _ hf => ?_) (fun _ hf => ?_)
        · refine z_iconst cx dX12_isWhat_40 ?_
          refine lv_goto (tgt := 45) cx.1 cx.2.1 dX12_isWhat_41 (by decide) ?_
          exact hj45 v4 v6 1 h _ _ ls rv4 rv6 (by decide) hp (lv_sub hl [0, 1, 2, 3, 4, 6] rfl) hf
        · exact hj44 v4 v6 h _ _ ls rv4 rv6 hp (lv_sub hl [0, 1, 2, 3, 4, 6] rfl) hf
    · exact hk67 v4 v5 h _ _ ls rv4 rv5 hp (lv_sub hl [0, 2, 3, 4, 5] rfl) hf
def fX12_isWhat (F : Nat) (a0 : Nat) (a1 : Int) (a2 : Int) (a3 : Int) (h : HF) : RO :=
  zjn (fun (x67_4 : Int) (x67_5 : Int) (h : HF) => (
    zrd h (a0 + 3) a2 fun x1 =>
    zjn (fun (x87_5 : Int) (y87_0 : Int) (h : HF) => (
      zdv 2 <|
      zjn (fun (y115_0 : Int) (h : HF) => (
        zrz y115_0 h
      )) fun j115 =>
      zjn (fun  (h : HF) => (
        j115 0 h
      )) fun j114 =>
      zjn (fun (x100_6 : Int) (h : HF) => (
        zjn (fun  (h : HF) => (
          j115 1 h
        )) fun j110 =>
        if a3 < 2 then (
          j110  h
        ) else (
          if x100_6 = 0 then (
            j114  h
          ) else (
            j110  h
          )
        )
      )) fun j100 =>
      if wrem a3 2 = 0 then (
        j100 y87_0 h
      ) else (
        if x87_5 = 0 then (
          j114  h
        ) else (
          j100 y87_0 h
        )
      )
    )) fun j87 =>
    if x67_4 = wr ((wshl 1 x1) - 1) then (
      j87 x67_5 1 h
    ) else (
      j87 x67_5 0 h
    )
  )) fun j67 =>
  LX12_isWhat_9 F a0 a1 a2 a3 j67 F 0 1 0 h
set_option maxHeartbeats 4000000 in
set_option maxRecDepth 100000 in
theorem mX12_isWhat (F : Nat) (l : Launch) (g : zG) (B : Nat) (h : HF) (a0 : Nat) (a1 : Int) (a2 : Int) (a3 : Int) (ra0 : kt a0 = 15) (ra1 : rng a1) (ra2 : rng a2) (ra3 : rng a3) : CTi l g B yX12_isWhat cX12_isWhat 7 (some .boolean) 0 [.ref (B + a0), .int (ii a1), .int (ii a2), .int (ii a3)] h (fX12_isWhat F a0 a1 a2 a3 h) := by
  refine z_enterI (by decide) rfl (Nat.le_of_ble_eq_true rfl) ?_
  intro p e s m args below meth c ls o Q cx hp hl hf hQ
  have hl : lv_has ls 7 [(0, .ref (B + a0)), (1, .int (ii a1)), (2, .int (ii a2)), (3, .int (ii a3))] := hl
  unfold fX12_isWhat at hf
  refine z_iconst cx dX12_isWhat_0 ?_
  refine lv_istore (lv' := [(4, .int (ii 0)), (0, .ref (B + a0)), (1, .int (ii a1)), (2, .int (ii a2)), (3, .int (ii a3))]) cx.1 cx.2.1 dX12_isWhat_1 hl (by decide) rfl (fun ls hl => ?_)
  refine z_iconst cx dX12_isWhat_3 ?_
  refine lv_istore (lv' := [(5, .int (ii 1)), (4, .int (ii 0)), (0, .ref (B + a0)), (1, .int (ii a1)), (2, .int (ii a2)), (3, .int (ii a3))]) cx.1 cx.2.1 dX12_isWhat_4 hl (by decide) rfl (fun ls hl => ?_)
  refine z_iconst cx dX12_isWhat_6 ?_
  refine lv_istore (lv' := [(6, .int (ii 0)), (5, .int (ii 1)), (4, .int (ii 0)), (0, .ref (B + a0)), (1, .int (ii a1)), (2, .int (ii a2)), (3, .int (ii a3))]) cx.1 cx.2.1 dX12_isWhat_7 hl (by decide) rfl (fun ls hl => ?_)
  refine z_jn hf (fun j => ∀ (x67_4 : Int) (x67_5 : Int) (h : HF) (H : Heap) (locs : List Loc) (ls : Array Slot), rng x67_4 → rng x67_5 → Hp g B s h H locs → lv_has ls 7 [(0, .ref (B + a0)), (2, .int (ii a2)), (3, .int (ii a3)), (4, .int (ii x67_4)), (5, .int (ii x67_5))] → j x67_4 x67_5 h = some o → W p l e (rmn 0) s m args below meth c H locs 0 0 Q (F0 m 67 ls [])) ?_ (fun j67 hj67 hf => ?_)
  · intro x67_4 x67_5 h H locs ls rx67_4 rx67_5 hp hl hf
    refine lv_iload cx.1 cx.2.1 dX12_isWhat_67 (lv_at hl 3 rfl) ?_
    refine z_iconst cx dX12_isWhat_69 ?_
    refine lv_aload_n cx.1 cx.2.1 dX12_isWhat_70 rfl (lv_at hl 0 rfl) ?_
    refine z_gets cx hp (T := TX12) 12 6 (a0 + 3) rfl zin_12 (by decide) (by decide) ra0 rfl fl_X12_16 dX12_isWhat_71 ?_
    refine lv_iload_n cx.1 cx.2.1 dX12_isWhat_74 rfl (lv_at hl 1 rfl) ?_
    refine z_iald cx hp (zs_12_6 a0 (kt_lt ra0 (by decide)) ra0) ra2 dX12_isWhat_75 hf (fun x1 rx1 hf => ?_)
    refine z_ishl cx dX12_isWhat_76 ?_
    refine z_iconst cx dX12_isWhat_77 ?_
    refine z_isub cx dX12_isWhat_78 ?_
    refine z_jn hf (fun j => ∀ (x87_5 : Int) (y87_0 : Int) (h : HF) (H : Heap) (locs : List Loc) (ls : Array Slot), rng x87_5 → rng y87_0 → Hp g B s h H locs → lv_has ls 7 [(3, .int (ii a3)), (5, .int (ii x87_5))] → j x87_5 y87_0 h = some o → W p l e (rmn 0) s m args below meth c H locs 0 0 Q (F0 m 87 ls [.int (ii y87_0)])) ?_ (fun j87 hj87 hf => ?_)
    · intro x87_5 y87_0 h H locs ls rx87_5 ry87_0 hp hl hf
      refine lv_istore (lv' := [(6, .int (ii y87_0)), (3, .int (ii a3)), (5, .int (ii x87_5))]) cx.1 cx.2.1 dX12_isWhat_87 hl (by decide) rfl (fun ls hl => ?_)
      refine lv_iload_n cx.1 cx.2.1 dX12_isWhat_89 rfl (lv_at hl 1 rfl) ?_
      refine z_iconst cx dX12_isWhat_90 ?_
      refine z_irem cx ra3 (by decide) dX12_isWhat_91 hf (fun hf => ?_)
      refine z_jn hf (fun j => ∀ (y115_0 : Int) (h : HF) (H : Heap) (locs : List Loc) (ls : Array Slot), rng y115_0 → Hp g B s h H locs → lv_has ls 7 [] → j y115_0 h = some o → W p l e (rmn 0) s m args below meth c H locs 0 0 Q (F0 m 115 ls [.int (ii y115_0)])) ?_ (fun j115 hj115 hf => ?_)
      · intro y115_0 h H locs ls ry115_0 hp hl hf
        rw [hQ]; exact z_zret cx hp dX12_isWhat_115 hf
      refine z_jn hf (fun j => ∀  (h : HF) (H : Heap) (locs : List Loc) (ls : Array Slot), Hp g B s h H locs → lv_has ls 7 [] → j  h = some o → W p l e (rmn 0) s m args below meth c H locs 0 0 Q (F0 m 114 ls [])) ?_ (fun j114 hj114 hf => ?_)
      · intro  h H locs ls  hp hl hf
        refine z_iconst cx dX12_isWhat_114 ?_
        exact hj115 0 h _ _ ls (by decide) hp (lv_sub hl [] rfl) hf
      refine z_jn hf (fun j => ∀ (x100_6 : Int) (h : HF) (H : Heap) (locs : List Loc) (ls : Array Slot), rng x100_6 → Hp g B s h H locs → lv_has ls 7 [(3, .int (ii a3)), (6, .int (ii x100_6))] → j x100_6 h = some o → W p l e (rmn 0) s m args below meth c H locs 0 0 Q (F0 m 100 ls [])) ?_ (fun j100 hj100 hf => ?_)
      · intro x100_6 h H locs ls rx100_6 hp hl hf
        refine lv_iload_n cx.1 cx.2.1 dX12_isWhat_100 rfl (lv_at hl 0 rfl) ?_
        refine z_iconst cx dX12_isWhat_101 ?_
        refine z_jn hf (fun j => ∀  (h : HF) (H : Heap) (locs : List Loc) (ls : Array Slot), Hp g B s h H locs → lv_has ls 7 [] → j  h = some o → W p l e (rmn 0) s m args below meth c H locs 0 0 Q (F0 m 110 ls [])) ?_ (fun j110 hj110 hf => ?_)
        · intro  h H locs ls  hp hl hf
          refine z_iconst cx dX12_isWhat_110 ?_
          refine lv_goto (tgt := 115) cx.1 cx.2.1 dX12_isWhat_111 (by decide) ?_
          exact hj115 1 h _ _ ls (by decide) hp (lv_sub hl [] rfl) hf
        refine z_icmp_lt cx ra3 (by decide) (tgt := 110) dX12_isWhat_102 (by decide) hf (fun _ hf => ?_) (fun _ hf => ?_)
        · exact hj110  h _ _ ls  hp (lv_sub hl [] rfl) hf
        · refine lv_iload cx.1 cx.2.1 dX12_isWhat_105 (lv_at hl 1 rfl) ?_
          refine z_if_eq cx rx100_6 (tgt := 114) dX12_isWhat_107 (by decide) hf (fun _ hf => ?_) (fun _ hf => ?_)
          · exact hj114  h _ _ ls  hp (lv_sub hl [] rfl) hf
          · exact hj110  h _ _ ls  hp (lv_sub hl [] rfl) hf
      refine z_if_eq cx (rng_rem _ _) (tgt := 100) dX12_isWhat_92 (by decide) hf (fun _ hf => ?_) (fun _ hf => ?_)
      · exact hj100 y87_0 h _ _ ls ry87_0 hp (lv_sub hl [1, 0] rfl) hf
      · refine lv_iload cx.1 cx.2.1 dX12_isWhat_95 (lv_at hl 2 rfl) ?_
        refine z_if_eq cx rx87_5 (tgt := 114) dX12_isWhat_97 (by decide) hf (fun _ hf => ?_) (fun _ hf => ?_)
        · exact hj114  h _ _ ls  hp (lv_sub hl [] rfl) hf
        · exact hj100 y87_0 h _ _ ls ry87_0 hp (lv_sub hl [1, 0] rfl) hf
    refine z_icmp_ne cx rx67_4 (rng_wr _) (tgt := 86) dX12_isWhat_79 (by decide) hf (fun _ hf => ?_) (fun _ hf => ?_)
    · refine z_iconst cx dX12_isWhat_82 ?_
      refine lv_goto (tgt := 87) cx.1 cx.2.1 dX12_isWhat_83 (by decide) ?_
      exact hj87 x67_5 1 h _ _ ls rx67_5 (by decide) hp (lv_sub hl [2, 4] rfl) hf
    · refine z_iconst cx dX12_isWhat_86 ?_
      exact hj87 x67_5 0 h _ _ ls rx67_5 (by decide) hp (lv_sub hl [2, 4] rfl) hf
  exact wX12_isWhat_9 F cx a0 ra0 a1 ra1 a2 ra2 a3 ra3 j67 hj67 F 0 1 0 h _ _ ls (by decide) (by decide) (by decide) hp (lv_sub hl [3, 4, 5, 6, 2, 1, 0] rfl) hf
theorem dX12_maps_0 : decode cX12_maps 0 = .ok (.iload 4, 2) := by decide +kernel
theorem dX12_maps_2 : decode cX12_maps 2 = .ok (.aload_n 0, 1) := by decide +kernel
theorem dX12_maps_3 : decode cX12_maps 3 = .ok (.getfield 16, 3) := by decide +kernel
theorem dX12_maps_6 : decode cX12_maps 6 = .ok (.iload_n 1, 1) := by decide +kernel
theorem dX12_maps_7 : decode cX12_maps 7 = .ok (.iaload, 1) := by decide +kernel
theorem dX12_maps_8 : decode cX12_maps 8 = .ok (.if_icmp .ne 38, 3) := by decide +kernel
theorem dX12_maps_11 : decode cX12_maps 11 = .ok (.aload_n 0, 1) := by decide +kernel
theorem dX12_maps_12 : decode cX12_maps 12 = .ok (.iload_n 1, 1) := by decide +kernel
theorem dX12_maps_13 : decode cX12_maps 13 = .ok (.iload_n 2, 1) := by decide +kernel
theorem dX12_maps_14 : decode cX12_maps 14 = .ok (.iload_n 3, 1) := by decide +kernel
theorem dX12_maps_15 : decode cX12_maps 15 = .ok (.invokevirtual 347, 3) := by decide +kernel
theorem dX12_maps_18 : decode cX12_maps 18 = .ok (.ifCond .eq 26, 3) := by decide +kernel
theorem dX12_maps_21 : decode cX12_maps 21 = .ok (.aload_n 0, 1) := by decide +kernel
theorem dX12_maps_22 : decode cX12_maps 22 = .ok (.getfield 311, 3) := by decide +kernel
theorem dX12_maps_25 : decode cX12_maps 25 = .ok (.aload_n 0, 1) := by decide +kernel
theorem dX12_maps_26 : decode cX12_maps 26 = .ok (.getfield 350, 3) := by decide +kernel
theorem dX12_maps_29 : decode cX12_maps 29 = .ok (.if_icmp .ne 5, 3) := by decide +kernel
theorem dX12_maps_32 : decode cX12_maps 32 = .ok (.iconst 1, 1) := by decide +kernel
theorem dX12_maps_33 : decode cX12_maps 33 = .ok (.ireturn, 1) := by decide +kernel
theorem dX12_maps_34 : decode cX12_maps 34 = .ok (.aload_n 0, 1) := by decide +kernel
theorem dX12_maps_35 : decode cX12_maps 35 = .ok (.dup, 1) := by decide +kernel
theorem dX12_maps_36 : decode cX12_maps 36 = .ok (.getfield 311, 3) := by decide +kernel
theorem dX12_maps_39 : decode cX12_maps 39 = .ok (.iconst 1, 1) := by decide +kernel
theorem dX12_maps_40 : decode cX12_maps 40 = .ok (.iadd, 1) := by decide +kernel
theorem dX12_maps_41 : decode cX12_maps 41 = .ok (.putfield 311, 3) := by decide +kernel
theorem dX12_maps_44 : decode cX12_maps 44 = .ok (.iconst 0, 1) := by decide +kernel
theorem dX12_maps_45 : decode cX12_maps 45 = .ok (.ireturn, 1) := by decide +kernel
theorem dX12_maps_46 : decode cX12_maps 46 = .ok (.iconst 0, 1) := by decide +kernel
theorem dX12_maps_47 : decode cX12_maps 47 = .ok (.istore 5, 2) := by decide +kernel
theorem dX12_maps_49 : decode cX12_maps 49 = .ok (.iload 5, 2) := by decide +kernel
theorem dX12_maps_51 : decode cX12_maps 51 = .ok (.aload_n 0, 1) := by decide +kernel
theorem dX12_maps_52 : decode cX12_maps 52 = .ok (.getfield 16, 3) := by decide +kernel
theorem dX12_maps_55 : decode cX12_maps 55 = .ok (.iload_n 2, 1) := by decide +kernel
theorem dX12_maps_56 : decode cX12_maps 56 = .ok (.iaload, 1) := by decide +kernel
theorem dX12_maps_57 : decode cX12_maps 57 = .ok (.if_icmp .ge 47, 3) := by decide +kernel
theorem dX12_maps_60 : decode cX12_maps 60 = .ok (.aload_n 0, 1) := by decide +kernel
theorem dX12_maps_61 : decode cX12_maps 61 = .ok (.getfield 94, 3) := by decide +kernel
theorem dX12_maps_64 : decode cX12_maps 64 = .ok (.iload 4, 2) := by decide +kernel
theorem dX12_maps_66 : decode cX12_maps 66 = .ok (.iload 5, 2) := by decide +kernel
theorem dX12_maps_68 : decode cX12_maps 68 = .ok (.iastore, 1) := by decide +kernel
theorem dX12_maps_69 : decode cX12_maps 69 = .ok (.aload_n 0, 1) := by decide +kernel
theorem dX12_maps_70 : decode cX12_maps 70 = .ok (.iload_n 1, 1) := by decide +kernel
theorem dX12_maps_71 : decode cX12_maps 71 = .ok (.iload_n 2, 1) := by decide +kernel
theorem dX12_maps_72 : decode cX12_maps 72 = .ok (.iload 4, 2) := by decide +kernel
theorem dX12_maps_74 : decode cX12_maps 74 = .ok (.iconst 1, 1) := by decide +kernel
theorem dX12_maps_75 : decode cX12_maps 75 = .ok (.iadd, 1) := by decide +kernel
theorem dX12_maps_76 : decode cX12_maps 76 = .ok (.invokevirtual 353, 3) := by decide +kernel
theorem dX12_maps_79 : decode cX12_maps 79 = .ok (.ifCond .eq 19, 3) := by decide +kernel
theorem dX12_maps_82 : decode cX12_maps 82 = .ok (.aload_n 0, 1) := by decide +kernel
theorem dX12_maps_83 : decode cX12_maps 83 = .ok (.iload_n 1, 1) := by decide +kernel
theorem dX12_maps_84 : decode cX12_maps 84 = .ok (.iload_n 2, 1) := by decide +kernel
theorem dX12_maps_85 : decode cX12_maps 85 = .ok (.iload_n 3, 1) := by decide +kernel
theorem dX12_maps_86 : decode cX12_maps 86 = .ok (.iload 4, 2) := by decide +kernel
theorem dX12_maps_88 : decode cX12_maps 88 = .ok (.iconst 1, 1) := by decide +kernel
theorem dX12_maps_89 : decode cX12_maps 89 = .ok (.iadd, 1) := by decide +kernel
theorem dX12_maps_90 : decode cX12_maps 90 = .ok (.invokevirtual 356, 3) := by decide +kernel
theorem dX12_maps_93 : decode cX12_maps 93 = .ok (.ifCond .eq 5, 3) := by decide +kernel
theorem dX12_maps_96 : decode cX12_maps 96 = .ok (.iconst 1, 1) := by decide +kernel
theorem dX12_maps_97 : decode cX12_maps 97 = .ok (.ireturn, 1) := by decide +kernel
theorem dX12_maps_98 : decode cX12_maps 98 = .ok (.iinc 5 1, 3) := by decide +kernel
theorem dX12_maps_101 : decode cX12_maps 101 = .ok (.goto (-52), 3) := by decide +kernel
theorem dX12_maps_104 : decode cX12_maps 104 = .ok (.iconst 0, 1) := by decide +kernel
theorem dX12_maps_105 : decode cX12_maps 105 = .ok (.ireturn, 1) := by decide +kernel
def LX12_maps_49 (F : Nat) (rf : Nat → Int → Int → Int → Int → HF → RO) (u0 : Nat) (u1 : Int) (u2 : Int) (u3 : Int) (u4 : Int) (k104 : HF → RO) (k96 : HF → RO) : Nat → Int → HF → RO
  | 0, _, _ => none
  | n + 1, v5, h =>
    zrd h (u0 + 3) u2 fun x6 =>
    if v5 < x6 then (
      zwr h (u0 + 29) u4 v5 fun h =>
      zbd (fX12_goes F u0 u1 u2 (wr (u4 + 1)) h) fun r7 h =>
      zjn (fun (x98_5 : Int) (h : HF) => (
        zlet (wr (x98_5 + 1)) fun x8 =>
        LX12_maps_49 F rf u0 u1 u2 u3 u4 k104 k96 n x8 h
      )) fun j98 =>
      if r7 = 0 then (
        j98 v5 h
      ) else (
        zbd (rf u0 u1 u2 u3 (wr (u4 + 1)) h) fun r9 h =>
        if r9 = 0 then (
          j98 v5 h
        ) else (
          k96  h
        )
      )
    ) else (
      k104  h
    )
set_option maxHeartbeats 4000000 in
set_option maxRecDepth 100000 in
theorem wX12_maps_49 {p : Program} {l : Launch} {e : Env} {s : State} {m : MethodId} {args : Array Value} {below : List Frame} {meth : Method} {c : Code} {Q : State → Prop} {g : zG} {B : Nat} {o : Int × HF} (F : Nat) (cx : Cx p s m args meth c cX12_maps 6 RX12 (some .boolean) g B) (rf : Nat → Int → Int → Int → Int → HF → RO) (kr : Nat) (hkr : 4 ≤ kr) (hrf : ∀ (h : HF) (b0 : Nat) (b1 : Int) (b2 : Int) (b3 : Int) (b4 : Int), kt b0 = 15 → rng b1 → rng b2 → rng b3 → rng b4 → CTi l g B yX12_maps cX12_maps 6 (some .boolean) kr [.ref (B + b0), .int (ii b1), .int (ii b2), .int (ii b3), .int (ii b4)] h (rf b0 b1 b2 b3 b4 h)) (u0 : Nat) (ru0 : kt u0 = 15) (u1 : Int) (ru1 : rng u1) (u2 : Int) (ru2 : rng u2) (u3 : Int) (ru3 : rng u3) (u4 : Int) (ru4 : rng u4) (k104 : HF → RO) (hk104 : ∀  (h : HF) (H : Heap) (locs : List Loc) (ls : Array Slot), Hp g B s h H locs → lv_has ls 6 [] → k104  h = some o → W p l e (rmn (kr + 1)) s m args below meth c H locs 0 0 Q (F0 m 104 ls [])) (k96 : HF → RO) (hk96 : ∀  (h : HF) (H : Heap) (locs : List Loc) (ls : Array Slot), Hp g B s h H locs → lv_has ls 6 [] → k96  h = some o → W p l e (rmn (kr + 1)) s m args below meth c H locs 0 0 Q (F0 m 96 ls [])) : ∀ (n : Nat) (v5 : Int) (h : HF) (H : Heap) (locs : List Loc) (ls : Array Slot), rng v5 → Hp g B s h H locs → lv_has ls 6 [(0, .ref (B + u0)), (1, .int (ii u1)), (2, .int (ii u2)), (3, .int (ii u3)), (4, .int (ii u4)), (5, .int (ii v5))] → LX12_maps_49 F rf u0 u1 u2 u3 u4 k104 k96 n v5 h = some o → W p l e (rmn (kr + 1)) s m args below meth c H locs 0 0 Q (F0 m 49 ls []) := by
  intro n
  induction n with
  | zero =>
    intro v5 h H locs ls rv5 hp hl hf
    cases hf
  | succ n ih =>
    intro v5 h H locs ls rv5 hp hl hf
    rw [LX12_maps_49] at hf
    refine lv_iload cx.1 cx.2.1 dX12_maps_49 (lv_at hl 5 rfl) ?_
    refine lv_aload_n cx.1 cx.2.1 dX12_maps_51 rfl (lv_at hl 0 rfl) ?_
    refine z_gets cx hp (T := TX12) 12 6 (u0 + 3) rfl zin_12 (by decide) (by decide) ru0 rfl fl_X12_16 dX12_maps_52 ?_
    refine lv_iload_n cx.1 cx.2.1 dX12_maps_55 rfl (lv_at hl 2 rfl) ?_
    refine z_iald cx hp (zs_12_6 u0 (kt_lt ru0 (by decide)) ru0) ru2 dX12_maps_56 hf (fun x6 rx6 hf => ?_)
    refine z_icmp_ge cx rv5 rx6 (tgt := 104) dX12_maps_57 (by decide) hf (fun _ hf => ?_) (fun _ hf => ?_)
    · refine lv_aload_n cx.1 cx.2.1 dX12_maps_60 rfl (lv_at hl 0 rfl) ?_
      refine z_gets cx hp (T := TX12) 12 46 (u0 + 29) rfl zin_12 (by decide) (by decide) ru0 rfl fl_X12_94 dX12_maps_61 ?_
      refine lv_iload cx.1 cx.2.1 dX12_maps_64 (lv_at hl 4 rfl) ?_
      refine lv_iload cx.1 cx.2.1 dX12_maps_66 (lv_at hl 5 rfl) ?_
      refine z_iast cx hp (zs_12_46 u0 (kt_lt ru0 (by decide)) ru0) ru4 rv5 dX12_maps_68 hf (fun h H locs hp hf => ?_)
      refine lv_aload_n cx.1 cx.2.1 dX12_maps_69 rfl (lv_at hl 0 rfl) ?_
      refine lv_iload_n cx.1 cx.2.1 dX12_maps_70 rfl (lv_at hl 1 rfl) ?_
      refine lv_iload_n cx.1 cx.2.1 dX12_maps_71 rfl (lv_at hl 2 rfl) ?_
      refine lv_iload cx.1 cx.2.1 dX12_maps_72 (lv_at hl 4 rfl) ?_
      refine z_iconst cx dX12_maps_74 ?_
      refine z_iadd cx dX12_maps_75 ?_
      refine z_ci cx hp (fun o' hx => zrunV (n := (kr + 1)) (As := [.int (ii u1), .int (ii u2), .int (ii (wr (u4 + 1)))]) (rest := []) cx hp (mX12_goes F l g B h u0 u1 u2 (wr (u4 + 1)) ru0 ru1 ru2 (rng_wr _) o' hx) 12 ru0 (by decide) rfl vw_X12_goes ml_X12_353 (by omega) rfl hl.1 rfl (Nat.le_of_ble_eq_true rfl) dX12_maps_76) hf (fun r7 h H locs rr7 hp hf => ?_)
      refine z_jn hf (fun j => ∀ (x98_5 : Int) (h : HF) (H : Heap) (locs : List Loc) (ls : Array Slot), rng x98_5 → Hp g B s h H locs → lv_has ls 6 [(0, .ref (B + u0)), (1, .int (ii u1)), (2, .int (ii u2)), (3, .int (ii u3)), (4, .int (ii u4)), (5, .int (ii x98_5))] → j x98_5 h = some o → W p l e (rmn (kr + 1)) s m args below meth c H locs 0 0 Q (F0 m 98 ls [])) ?_ (fun j98 hj98 hf => ?_)
      · intro x98_5 h H locs ls rx98_5 hp hl hf
        refine z_iinc cx (fun x8 => [(5, .int (ii x8)), (0, .ref (B + u0)), (1, .int (ii u1)), (2, .int (ii u2)), (3, .int (ii u3)), (4, .int (ii u4))]) dX12_maps_98 hl (k := 5) rfl (by decide) (fun _ => rfl) hf (fun x8 rx8 hf ls hl => ?_)
        refine lv_goto (tgt := 49) cx.1 cx.2.1 dX12_maps_101 (by decide) ?_
        exact ih x8 h _ _ ls rx8 hp (lv_sub hl [1, 2, 3, 4, 5, 0] rfl) hf
      refine z_if_eq cx rr7 (tgt := 98) dX12_maps_79 (by decide) hf (fun _ hf => ?_) (fun _ hf => ?_)
      · exact hj98 v5 h _ _ ls rv5 hp (lv_sub hl [0, 1, 2, 3, 4, 5] rfl) hf
      · refine lv_aload_n cx.1 cx.2.1 dX12_maps_82 rfl (lv_at hl 0 rfl) ?_
        refine lv_iload_n cx.1 cx.2.1 dX12_maps_83 rfl (lv_at hl 1 rfl) ?_
        refine lv_iload_n cx.1 cx.2.1 dX12_maps_84 rfl (lv_at hl 2 rfl) ?_
        refine lv_iload_n cx.1 cx.2.1 dX12_maps_85 rfl (lv_at hl 3 rfl) ?_
        refine lv_iload cx.1 cx.2.1 dX12_maps_86 (lv_at hl 4 rfl) ?_
        refine z_iconst cx dX12_maps_88 ?_
        refine z_iadd cx dX12_maps_89 ?_
        refine z_ci cx hp (fun o' hx => zrunV (n := (kr + 1)) (As := [.int (ii u1), .int (ii u2), .int (ii u3), .int (ii (wr (u4 + 1)))]) (rest := []) cx hp (hrf h u0 u1 u2 u3 (wr (u4 + 1)) ru0 ru1 ru2 ru3 (rng_wr _) o' hx) 12 ru0 (by decide) rfl vw_X12_maps ml_X12_356 (by omega) rfl hl.1 rfl (Nat.le_of_ble_eq_true rfl) dX12_maps_90) hf (fun r9 h H locs rr9 hp hf => ?_)
        refine z_if_eq cx rr9 (tgt := 98) dX12_maps_93 (by decide) hf (fun _ hf => ?_) (fun _ hf => ?_)
        · exact hj98 v5 h _ _ ls rv5 hp (lv_sub hl [0, 1, 2, 3, 4, 5] rfl) hf
        · exact hk96  h _ _ ls  hp (lv_sub hl [] rfl) hf
    · exact hk104  h _ _ ls  hp (lv_sub hl [] rfl) hf
def fX12_maps (F : Nat) : Nat → Nat → Int → Int → Int → Int → HF → RO
  | 0, _, _, _, _, _, _ => none
  | D + 1, a0, a1, a2, a3, a4, h =>
    zrd h (a0 + 3) a1 fun x1 =>
    if a4 = x1 then (
      zbd (fX12_isWhat F a0 a1 a2 a3 h) fun r2 h =>
      zjn (fun  (h : HF) => (
        zrz 0 h
      )) fun j44 =>
      if r2 = 0 then (
        j44  h
      ) else (
        zgf h a0 43 fun x3 =>
        zgf h a0 47 fun x4 =>
        if x3 = x4 then (
          zrz 1 h
        ) else (
          zgf h a0 43 fun x5 =>
          zpf h a0 43 (wr (x5 + 1)) fun h =>
          j44  h
        )
      )
    ) else (
      zjn (fun  (h : HF) => (
        zrz 0 h
      )) fun j104 =>
      zjn (fun  (h : HF) => (
        zrz 1 h
      )) fun j96 =>
      LX12_maps_49 F (fX12_maps F D) a0 a1 a2 a3 a4 j104 j96 F 0 h
    )
set_option maxHeartbeats 4000000 in
set_option maxRecDepth 100000 in
theorem mX12_maps (F : Nat) (l : Launch) (g : zG) (B : Nat) : ∀ (D : Nat) (h : HF) (a0 : Nat) (a1 : Int) (a2 : Int) (a3 : Int) (a4 : Int) (ra0 : kt a0 = 15) (ra1 : rng a1) (ra2 : rng a2) (ra3 : rng a3) (ra4 : rng a4), CTi l g B yX12_maps cX12_maps 6 (some .boolean) (4 + 1 * D) [.ref (B + a0), .int (ii a1), .int (ii a2), .int (ii a3), .int (ii a4)] h (fX12_maps F D a0 a1 a2 a3 a4 h) := by
  intro D
  induction D with
  | zero =>
    intro h a0 a1 a2 a3 a4 ra0 ra1 ra2 ra3 ra4 o hx
    cases hx
  | succ D ihD =>
    intro h a0 a1 a2 a3 a4 ra0 ra1 ra2 ra3 ra4
    refine z_enterI (by decide) rfl (Nat.le_of_ble_eq_true rfl) ?_
    intro p e s m args below meth c ls o Q cx hp hl hf hQ
    have hl : lv_has ls 6 [(0, .ref (B + a0)), (1, .int (ii a1)), (2, .int (ii a2)), (3, .int (ii a3)), (4, .int (ii a4))] := hl
    rw [fX12_maps] at hf
    refine lv_iload cx.1 cx.2.1 dX12_maps_0 (lv_at hl 4 rfl) ?_
    refine lv_aload_n cx.1 cx.2.1 dX12_maps_2 rfl (lv_at hl 0 rfl) ?_
    refine z_gets cx hp (T := TX12) 12 6 (a0 + 3) rfl zin_12 (by decide) (by decide) ra0 rfl fl_X12_16 dX12_maps_3 ?_
    refine lv_iload_n cx.1 cx.2.1 dX12_maps_6 rfl (lv_at hl 1 rfl) ?_
    refine z_iald cx hp (zs_12_6 a0 (kt_lt ra0 (by decide)) ra0) ra1 dX12_maps_7 hf (fun x1 rx1 hf => ?_)
    refine z_icmp_ne cx ra4 rx1 (tgt := 46) dX12_maps_8 (by decide) hf (fun _ hf => ?_) (fun _ hf => ?_)
    · refine lv_aload_n cx.1 cx.2.1 dX12_maps_11 rfl (lv_at hl 0 rfl) ?_
      refine lv_iload_n cx.1 cx.2.1 dX12_maps_12 rfl (lv_at hl 1 rfl) ?_
      refine lv_iload_n cx.1 cx.2.1 dX12_maps_13 rfl (lv_at hl 2 rfl) ?_
      refine lv_iload_n cx.1 cx.2.1 dX12_maps_14 rfl (lv_at hl 3 rfl) ?_
      refine z_ci cx hp (fun o' hx => zrunV (n := (4 + 1 * (D + 1))) (As := [.int (ii a1), .int (ii a2), .int (ii a3)]) (rest := []) cx hp (mX12_isWhat F l g B h a0 a1 a2 a3 ra0 ra1 ra2 ra3 o' hx) 12 ra0 (by decide) rfl vw_X12_isWhat ml_X12_347 (by omega) rfl hl.1 rfl (Nat.le_of_ble_eq_true rfl) dX12_maps_15) hf (fun r2 h H locs rr2 hp hf => ?_)
      refine z_jn hf (fun j => ∀  (h : HF) (H : Heap) (locs : List Loc) (ls : Array Slot), Hp g B s h H locs → lv_has ls 6 [] → j  h = some o → W p l e (rmn (4 + 1 * (D + 1))) s m args below meth c H locs 0 0 Q (F0 m 44 ls [])) ?_ (fun j44 hj44 hf => ?_)
      · intro  h H locs ls  hp hl hf
        refine z_iconst cx dX12_maps_44 ?_
        rw [hQ]; exact z_zret cx hp dX12_maps_45 hf
      refine z_if_eq cx rr2 (tgt := 44) dX12_maps_18 (by decide) hf (fun _ hf => ?_) (fun _ hf => ?_)
      · exact hj44  h _ _ ls  hp (lv_sub hl [] rfl) hf
      · refine lv_aload_n cx.1 cx.2.1 dX12_maps_21 rfl (lv_at hl 0 rfl) ?_
        refine z_geti cx hp (T := TX12) 12 43 rfl zin_12 (by decide) (by decide) ra0 rfl fl_X12_311 dX12_maps_22 hf (fun x3 rx3 hf => ?_)
        refine lv_aload_n cx.1 cx.2.1 dX12_maps_25 rfl (lv_at hl 0 rfl) ?_
        refine z_geti cx hp (T := TX12) 12 47 rfl zin_12 (by decide) (by decide) ra0 rfl fl_X12_350 dX12_maps_26 hf (fun x4 rx4 hf => ?_)
        refine z_icmp_ne cx rx3 rx4 (tgt := 34) dX12_maps_29 (by decide) hf (fun _ hf => ?_) (fun _ hf => ?_)
        · refine z_iconst cx dX12_maps_32 ?_
          rw [hQ]; exact z_zret cx hp dX12_maps_33 hf
        · refine lv_aload_n cx.1 cx.2.1 dX12_maps_34 rfl (lv_at hl 0 rfl) ?_
          refine lv_dup cx.1 cx.2.1 dX12_maps_35 rfl ?_
          refine z_geti cx hp (T := TX12) 12 43 rfl zin_12 (by decide) (by decide) ra0 rfl fl_X12_311 dX12_maps_36 hf (fun x5 rx5 hf => ?_)
          refine z_iconst cx dX12_maps_39 ?_
          refine z_iadd cx dX12_maps_40 ?_
          refine z_puti cx hp (T := TX12) tyX12 tyX12_ok nmX12 12 43 (rng_wr _) rfl zin_12 (by decide) (by decide) ra0 rfl rfl rfl fl_X12_311 dX12_maps_41 hf (fun h H locs hp hf => ?_)
          exact hj44  h _ _ ls  hp (lv_sub hl [] rfl) hf
    · refine z_iconst cx dX12_maps_46 ?_
      refine lv_istore (lv' := [(5, .int (ii 0)), (0, .ref (B + a0)), (1, .int (ii a1)), (2, .int (ii a2)), (3, .int (ii a3)), (4, .int (ii a4))]) cx.1 cx.2.1 dX12_maps_47 hl (by decide) rfl (fun ls hl => ?_)
      refine z_jn hf (fun j => ∀  (h : HF) (H : Heap) (locs : List Loc) (ls : Array Slot), Hp g B s h H locs → lv_has ls 6 [] → j  h = some o → W p l e (rmn (4 + 1 * (D + 1))) s m args below meth c H locs 0 0 Q (F0 m 104 ls [])) ?_ (fun j104 hj104 hf => ?_)
      · intro  h H locs ls  hp hl hf
        refine z_iconst cx dX12_maps_104 ?_
        rw [hQ]; exact z_zret cx hp dX12_maps_105 hf
      refine z_jn hf (fun j => ∀  (h : HF) (H : Heap) (locs : List Loc) (ls : Array Slot), Hp g B s h H locs → lv_has ls 6 [] → j  h = some o → W p l e (rmn (4 + 1 * (D + 1))) s m args below meth c H locs 0 0 Q (F0 m 96 ls [])) ?_ (fun j96 hj96 hf => ?_)
      · intro  h H locs ls  hp hl hf
        refine z_iconst cx dX12_maps_96 ?_
        rw [hQ]; exact z_zret cx hp dX12_maps_97 hf
      exact wX12_maps_49 F cx (fX12_maps F D) (4 + 1 * D) (by omega) ihD a0 ra0 a1 ra1 a2 ra2 a3 ra3 a4 ra4 j104 hj104 j96 hj96 F 0 h _ _ ls (by decide) hp (lv_sub hl [1, 2, 3, 4, 5, 0] rfl) hf
