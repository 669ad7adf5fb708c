theorem dX12_powers_0 : decode cX12_powers 0 = .ok (.aload_n 0, 1) := by decide +kernel
theorem dX12_powers_1 : decode cX12_powers 1 = .ok (.iconst 0, 1) := by decide +kernel
theorem dX12_powers_2 : decode cX12_powers 2 = .ok (.putfield 115, 3) := by decide +kernel
theorem dX12_powers_5 : decode cX12_powers 5 = .ok (.aload_n 0, 1) := by decide +kernel
theorem dX12_powers_6 : decode cX12_powers 6 = .ok (.iload_n 1, 1) := by decide +kernel
theorem dX12_powers_7 : decode cX12_powers 7 = .ok (.invokevirtual 168, 3) := by decide +kernel
theorem dX12_powers_10 : decode cX12_powers 10 = .ok (.istore 4, 2) := by decide +kernel
theorem dX12_powers_12 : decode cX12_powers 12 = .ok (.iload 4, 2) := by decide +kernel
theorem dX12_powers_14 : decode cX12_powers 14 = .ok (.ifCond .eq 6, 3) := by decide +kernel
theorem dX12_powers_17 : decode cX12_powers 17 = .ok (.iload 4, 2) := by decide +kernel
theorem dX12_powers_19 : decode cX12_powers 19 = .ok (.ireturn, 1) := by decide +kernel
theorem dX12_powers_20 : decode cX12_powers 20 = .ok (.aload_n 0, 1) := by decide +kernel
theorem dX12_powers_21 : decode cX12_powers 21 = .ok (.iload_n 1, 1) := by decide +kernel
theorem dX12_powers_22 : decode cX12_powers 22 = .ok (.iload_n 2, 1) := by decide +kernel
theorem dX12_powers_23 : decode cX12_powers 23 = .ok (.invokevirtual 171, 3) := by decide +kernel
theorem dX12_powers_26 : decode cX12_powers 26 = .ok (.ifCond .eq 12, 3) := by decide +kernel
theorem dX12_powers_29 : decode cX12_powers 29 = .ok (.aload_n 0, 1) := by decide +kernel
theorem dX12_powers_30 : decode cX12_powers 30 = .ok (.iload_n 1, 1) := by decide +kernel
theorem dX12_powers_31 : decode cX12_powers 31 = .ok (.iload_n 3, 1) := by decide +kernel
theorem dX12_powers_32 : decode cX12_powers 32 = .ok (.invokevirtual 164, 3) := by decide +kernel
theorem dX12_powers_35 : decode cX12_powers 35 = .ok (.ifCond .ne 6, 3) := by decide +kernel
theorem dX12_powers_41 : decode cX12_powers 41 = .ok (.aload_n 0, 1) := by decide +kernel
theorem dX12_powers_42 : decode cX12_powers 42 = .ok (.iload_n 1, 1) := by decide +kernel
theorem dX12_powers_43 : decode cX12_powers 43 = .ok (.iload_n 2, 1) := by decide +kernel
theorem dX12_powers_44 : decode cX12_powers 44 = .ok (.invokevirtual 129, 3) := by decide +kernel
theorem dX12_powers_47 : decode cX12_powers 47 = .ok (.iconst 2, 1) := by decide +kernel
theorem dX12_powers_48 : decode cX12_powers 48 = .ok (.if_icmp .eq 6, 3) := by decide +kernel
theorem dX12_powers_51 : decode cX12_powers 51 = .ok (.bipush (-12), 2) := by decide +kernel
theorem dX12_powers_53 : decode cX12_powers 53 = .ok (.ireturn, 1) := by decide +kernel
theorem dX12_powers_54 : decode cX12_powers 54 = .ok (.iconst 0, 1) := by decide +kernel
theorem dX12_powers_55 : decode cX12_powers 55 = .ok (.istore 5, 2) := by decide +kernel
theorem dX12_powers_57 : decode cX12_powers 57 = .ok (.iload 5, 2) := by decide +kernel
theorem dX12_powers_59 : decode cX12_powers 59 = .ok (.bipush 7, 2) := by decide +kernel
theorem dX12_powers_61 : decode cX12_powers 61 = .ok (.if_icmp .ge 17, 3) := by decide +kernel
theorem dX12_powers_64 : decode cX12_powers 64 = .ok (.aload_n 0, 1) := by decide +kernel
theorem dX12_powers_65 : decode cX12_powers 65 = .ok (.getfield 43, 3) := by decide +kernel
theorem dX12_powers_68 : decode cX12_powers 68 = .ok (.iload 5, 2) := by decide +kernel
theorem dX12_powers_70 : decode cX12_powers 70 = .ok (.iconst (-1), 1) := by decide +kernel
theorem dX12_powers_71 : decode cX12_powers 71 = .ok (.iastore, 1) := by decide +kernel
theorem dX12_powers_72 : decode cX12_powers 72 = .ok (.iinc 5 1, 3) := by decide +kernel
theorem dX12_powers_75 : decode cX12_powers 75 = .ok (.goto (-18), 3) := by decide +kernel
theorem dX12_powers_78 : decode cX12_powers 78 = .ok (.iload_n 3, 1) := by decide +kernel
theorem dX12_powers_79 : decode cX12_powers 79 = .ok (.istore 5, 2) := by decide +kernel
theorem dX12_powers_81 : decode cX12_powers 81 = .ok (.iconst 0, 1) := by decide +kernel
theorem dX12_powers_82 : decode cX12_powers 82 = .ok (.istore 6, 2) := by decide +kernel
theorem dX12_powers_84 : decode cX12_powers 84 = .ok (.aload_n 0, 1) := by decide +kernel
theorem dX12_powers_85 : decode cX12_powers 85 = .ok (.getfield 43, 3) := by decide +kernel
theorem dX12_powers_88 : decode cX12_powers 88 = .ok (.iload 5, 2) := by decide +kernel
theorem dX12_powers_90 : decode cX12_powers 90 = .ok (.iaload, 1) := by decide +kernel
theorem dX12_powers_91 : decode cX12_powers 91 = .ok (.iconst (-1), 1) := by decide +kernel
theorem dX12_powers_92 : decode cX12_powers 92 = .ok (.if_icmp .ne 29, 3) := by decide +kernel
theorem dX12_powers_95 : decode cX12_powers 95 = .ok (.aload_n 0, 1) := by decide +kernel
theorem dX12_powers_96 : decode cX12_powers 96 = .ok (.getfield 43, 3) := by decide +kernel
theorem dX12_powers_99 : decode cX12_powers 99 = .ok (.iload 5, 2) := by decide +kernel
theorem dX12_powers_101 : decode cX12_powers 101 = .ok (.iload 6, 2) := by decide +kernel
theorem dX12_powers_103 : decode cX12_powers 103 = .ok (.iastore, 1) := by decide +kernel
theorem dX12_powers_104 : decode cX12_powers 104 = .ok (.iinc 6 1, 3) := by decide +kernel
theorem dX12_powers_107 : decode cX12_powers 107 = .ok (.aload_n 0, 1) := by decide +kernel
theorem dX12_powers_108 : decode cX12_powers 108 = .ok (.iload_n 1, 1) := by decide +kernel
theorem dX12_powers_109 : decode cX12_powers 109 = .ok (.iload_n 2, 1) := by decide +kernel
theorem dX12_powers_110 : decode cX12_powers 110 = .ok (.iload 5, 2) := by decide +kernel
theorem dX12_powers_112 : decode cX12_powers 112 = .ok (.iload_n 3, 1) := by decide +kernel
theorem dX12_powers_113 : decode cX12_powers 113 = .ok (.invokevirtual 178, 3) := by decide +kernel
theorem dX12_powers_116 : decode cX12_powers 116 = .ok (.istore 5, 2) := by decide +kernel
theorem dX12_powers_118 : decode cX12_powers 118 = .ok (.goto (-34), 3) := by decide +kernel
theorem dX12_powers_121 : decode cX12_powers 121 = .ok (.bipush 10, 2) := by decide +kernel
theorem dX12_powers_123 : decode cX12_powers 123 = .ok (.aload_n 0, 1) := by decide +kernel
theorem dX12_powers_124 : decode cX12_powers 124 = .ok (.getfield 43, 3) := by decide +kernel
theorem dX12_powers_127 : decode cX12_powers 127 = .ok (.iload 5, 2) := by decide +kernel
theorem dX12_powers_129 : decode cX12_powers 129 = .ok (.iaload, 1) := by decide +kernel
theorem dX12_powers_130 : decode cX12_powers 130 = .ok (.imul, 1) := by decide +kernel
theorem dX12_powers_131 : decode cX12_powers 131 = .ok (.iload 6, 2) := by decide +kernel
theorem dX12_powers_133 : decode cX12_powers 133 = .ok (.iadd, 1) := by decide +kernel
theorem dX12_powers_134 : decode cX12_powers 134 = .ok (.aload_n 0, 1) := by decide +kernel
theorem dX12_powers_135 : decode cX12_powers 135 = .ok (.getfield 43, 3) := by decide +kernel
theorem dX12_powers_138 : decode cX12_powers 138 = .ok (.iload 5, 2) := by decide +kernel
theorem dX12_powers_140 : decode cX12_powers 140 = .ok (.iaload, 1) := by decide +kernel
theorem dX12_powers_141 : decode cX12_powers 141 = .ok (.isub, 1) := by decide +kernel
theorem dX12_powers_142 : decode cX12_powers 142 = .ok (.ireturn, 1) := by decide +kernel
theorem dX12_powers_38 : decode cX12_powers 38 = .ok (.bipush (-3), 2) := by decide +kernel
theorem dX12_powers_40 : decode cX12_powers 40 = .ok (.ireturn, 1) := by decide +kernel
def LX12_powers_84 (F : Nat) (u0 : Nat) (u1 : Int) (u2 : Int) (u3 : Int) (k121 : Int → Int → HF → RO) : Nat → Int → Int → HF → RO
  | 0, _, _, _ => none
  | n + 1, v5, v6, h =>
    zrd h (u0 + 12) v5 fun x7 =>
    if x7 = (-1) then (
      zwr h (u0 + 12) v5 v6 fun h =>
      zlet (wr (v6 + 1)) fun x8 =>
      zbd (fX12_value F u0 u1 u2 v5 u3 h) fun r9 h =>
      LX12_powers_84 F u0 u1 u2 u3 k121 n r9 x8 h
    ) else (
      k121 v5 v6 h
    )
set_option maxHeartbeats 4000000 in
set_option maxRecDepth 100000 in
theorem wX12_powers_84 {p : Program} {l : Launch} {e : Env} {s : State} {m : MethodId} {args : Array Value} {below : List Frame} {meth : Method} {c : Code} {Q : State → Prop} {g : zG} {B : Nat} {o : Int × HF} (F : Nat) (cx : Cx p s m args meth c cX12_powers 7 RX12 (some .int) g B) (u0 : Nat) (ru0 : kt u0 = 15) (u1 : Int) (ru1 : rng u1) (u2 : Int) (ru2 : rng u2) (u3 : Int) (ru3 : rng u3) (k121 : Int → Int → HF → RO) (hk121 : ∀ (x5 : Int) (x6 : Int) (h : HF) (H : Heap) (locs : List Loc) (ls : Array Slot), rng x5 → rng x6 → Hp g B s h H locs → lv_has ls 7 [(0, .ref (B + u0)), (5, .int (ii x5)), (6, .int (ii x6))] → k121 x5 x6 h = some o → W p l e (rmn 3) s m args below meth c H locs 0 0 Q (F0 m 121 ls [])) : ∀ (n : Nat) (v5 : Int) (v6 : Int) (h : HF) (H : Heap) (locs : List Loc) (ls : Array Slot), rng v5 → rng v6 → Hp g B s h H locs → lv_has ls 7 [(0, .ref (B + u0)), (1, .int (ii u1)), (2, .int (ii u2)), (3, .int (ii u3)), (5, .int (ii v5)), (6, .int (ii v6))] → LX12_powers_84 F u0 u1 u2 u3 k121 n v5 v6 h = some o → W p l e (rmn 3) s m args below meth c H locs 0 0 Q (F0 m 84 ls []) := by
  intro n
  induction n with
  | zero =>
    intro v5 v6 h H locs ls rv5 rv6 hp hl hf
    cases hf
  | succ n ih =>
    intro v5 v6 h H locs ls rv5 rv6 hp hl hf
    rw [LX12_powers_84] at hf
    refine lv_aload_n cx.1 cx.2.1 dX12_powers_84 rfl (lv_at hl 0 rfl) ?_
    refine z_gets cx hp (T := TX12) 12 18 (u0 + 12) rfl zin_12 (by decide) (by decide) ru0 rfl fl_X12_43 dX12_powers_85 ?_
    refine lv_iload cx.1 cx.2.1 dX12_powers_88 (lv_at hl 4 rfl) ?_
    refine z_iald cx hp (zs_12_18 u0 (kt_lt ru0 (by decide)) ru0) rv5 dX12_powers_90 hf (fun x7 rx7 hf => ?_)
    refine z_iconst cx dX12_powers_91 ?_
    refine z_icmp_ne cx rx7 (by decide) (tgt := 121) dX12_powers_92 (by decide) hf (fun _ hf => ?_) (fun _ hf => ?_)
    · refine lv_aload_n cx.1 cx.2.1 dX12_powers_95 rfl (lv_at hl 0 rfl) ?_
      refine z_gets cx hp (T := TX12) 12 18 (u0 + 12) rfl zin_12 (by decide) (by decide) ru0 rfl fl_X12_43 dX12_powers_96 ?_
      refine lv_iload cx.1 cx.2.1 dX12_powers_99 (lv_at hl 4 rfl) ?_
      refine lv_iload cx.1 cx.2.1 dX12_powers_101 (lv_at hl 5 rfl) ?_
      refine z_iast cx hp (zs_12_18 u0 (kt_lt ru0 (by decide)) ru0) rv5 rv6 dX12_powers_103 hf (fun h H locs hp hf => ?_)
      refine z_iinc cx (fun x8 => [(6, .int (ii x8)), (0, .ref (B + u0)), (1, .int (ii u1)), (2, .int (ii u2)), (3, .int (ii u3)), (5, .int (ii v5))]) dX12_powers_104 hl (k := 5) rfl (by decide) (fun _ => rfl) hf (fun x8 rx8 hf ls hl => ?_)
      refine lv_aload_n cx.1 cx.2.1 dX12_powers_107 rfl (lv_at hl 1 rfl) ?_
      refine lv_iload_n cx.1 cx.2.1 dX12_powers_108 rfl (lv_at hl 2 rfl) ?_
      refine lv_iload_n cx.1 cx.2.1 dX12_powers_109 rfl (lv_at hl 3 rfl) ?_
      refine lv_iload cx.1 cx.2.1 dX12_powers_110 (lv_at hl 5 rfl) ?_
      refine lv_iload_n cx.1 cx.2.1 dX12_powers_112 rfl (lv_at hl 4 rfl) ?_
      refine z_ci cx hp (fun o' hx => zrunV (n := 3) (As := [.int (ii u1), .int (ii u2), .int (ii v5), .int (ii u3)]) (rest := []) cx hp (mX12_value F l g B h u0 u1 u2 v5 u3 ru0 ru1 ru2 rv5 ru3 o' hx) 12 ru0 (by decide) rfl vw_X12_value ml_X12_178 (by decide) rfl hl.1 rfl (Nat.le_of_ble_eq_true rfl) dX12_powers_113) hf (fun r9 h H locs rr9 hp hf => ?_)
      refine lv_istore (lv' := [(5, .int (ii r9)), (6, .int (ii x8)), (0, .ref (B + u0)), (1, .int (ii u1)), (2, .int (ii u2)), (3, .int (ii u3))]) cx.1 cx.2.1 dX12_powers_116 hl (by decide) rfl (fun ls hl => ?_)
      refine lv_goto (tgt := 84) cx.1 cx.2.1 dX12_powers_118 (by decide) ?_
      exact ih r9 x8 h _ _ ls rr9 rx8 hp (lv_sub hl [2, 3, 4, 5, 0, 1] rfl) hf
    · exact hk121 v5 v6 h _ _ ls rv5 rv6 hp (lv_sub hl [0, 4, 5] rfl) hf
def LX12_powers_57 (F : Nat) (u0 : Nat) (u1 : Int) (u2 : Int) (u3 : Int) (k78 : HF → RO) : Nat → Int → HF → RO
  | 0, _, _ => none
  | n + 1, v5, h =>
    if v5 < 7 then (
      zwr h (u0 + 12) v5 (-1) fun h =>
      zlet (wr (v5 + 1)) fun x10 =>
      LX12_powers_57 F u0 u1 u2 u3 k78 n x10 h
    ) else (
      k78  h
    )
set_option maxHeartbeats 4000000 in
set_option maxRecDepth 100000 in
theorem wX12_powers_57 {p : Program} {l : Launch} {e : Env} {s : State} {m : MethodId} {args : Array Value} {below : List Frame} {meth : Method} {c : Code} {Q : State → Prop} {g : zG} {B : Nat} {o : Int × HF} (F : Nat) (cx : Cx p s m args meth c cX12_powers 7 RX12 (some .int) g B) (u0 : Nat) (ru0 : kt u0 = 15) (u1 : Int) (ru1 : rng u1) (u2 : Int) (ru2 : rng u2) (u3 : Int) (ru3 : rng u3) (k78 : HF → RO) (hk78 : ∀  (h : HF) (H : Heap) (locs : List Loc) (ls : Array Slot), Hp g B s h H locs → lv_has ls 7 [(0, .ref (B + u0)), (1, .int (ii u1)), (2, .int (ii u2)), (3, .int (ii u3))] → k78  h = some o → W p l e (rmn 3) s m args below meth c H locs 0 0 Q (F0 m 78 ls [])) : ∀ (n : Nat) (v5 : Int) (h : HF) (H : Heap) (locs : List Loc) (ls : Array Slot), rng v5 → Hp g B s h H locs → lv_has ls 7 [(0, .ref (B + u0)), (1, .int (ii u1)), (2, .int (ii u2)), (3, .int (ii u3)), (5, .int (ii v5))] → LX12_powers_57 F u0 u1 u2 u3 k78 n v5 h = some o → W p l e (rmn 3) s m args below meth c H locs 0 0 Q (F0 m 57 ls []) := by
  intro n
  induction n with
  | zero =>
    intro v5 h H locs ls rv5 hp hl hf
    cases hf
  | succ n ih =>
    intro v5 h H locs ls rv5 hp hl hf
    rw [LX12_powers_57] at hf
    refine lv_iload cx.1 cx.2.1 dX12_powers_57 (lv_at hl 4 rfl) ?_
    refine z_bipush cx (by decide) dX12_powers_59 ?_
    refine z_icmp_ge cx rv5 (by decide) (tgt := 78) dX12_powers_61 (by decide) hf (fun _ hf => ?_) (fun _ hf => ?_)
    · refine lv_aload_n cx.1 cx.2.1 dX12_powers_64 rfl (lv_at hl 0 rfl) ?_
      refine z_gets cx hp (T := TX12) 12 18 (u0 + 12) rfl zin_12 (by decide) (by decide) ru0 rfl fl_X12_43 dX12_powers_65 ?_
      refine lv_iload cx.1 cx.2.1 dX12_powers_68 (lv_at hl 4 rfl) ?_
      refine z_iconst cx dX12_powers_70 ?_
      refine z_iast cx hp (zs_12_18 u0 (kt_lt ru0 (by decide)) ru0) rv5 (by decide) dX12_powers_71 hf (fun h H locs hp hf => ?_)
      refine z_iinc cx (fun x10 => [(5, .int (ii x10)), (0, .ref (B + u0)), (1, .int (ii u1)), (2, .int (ii u2)), (3, .int (ii u3))]) dX12_powers_72 hl (k := 4) rfl (by decide) (fun _ => rfl) hf (fun x10 rx10 hf ls hl => ?_)
      refine lv_goto (tgt := 57) cx.1 cx.2.1 dX12_powers_75 (by decide) ?_
      exact ih x10 h _ _ ls rx10 hp (lv_sub hl [1, 2, 3, 4, 0] rfl) hf
    · exact hk78  h _ _ ls  hp (lv_sub hl [0, 1, 2, 3] rfl) hf
def fX12_powers (F : Nat) (a0 : Nat) (a1 : Int) (a2 : Int) (a3 : Int) (h : HF) : RO :=
  zpf h a0 0 0 fun h =>
  zbd (fX12_refuse F a0 a1 h) fun r1 h =>
  if r1 = 0 then (
    zbd (fX12_isOp F a0 a1 a2 h) fun r2 h =>
    zjn (fun  (h : HF) => (
      some ((-3), h)
    )) fun j38 =>
    if r2 = 0 then (
      j38  h
    ) else (
      zbd (fX12_isElement F a0 a1 a3 h) fun r3 h =>
      if r3 = 0 then (
        j38  h
      ) else (
        zbd (fX12_arity F a0 a1 a2 h) fun r4 h =>
        if r4 = 2 then (
          zjn (fun  (h : HF) => (
            zjn (fun (x121_5 : Int) (x121_6 : Int) (h : HF) => (
              zrd h (a0 + 12) x121_5 fun x5 =>
              zrd h (a0 + 12) x121_5 fun x6 =>
              some (wr ((wr ((wr (10 * x5)) + x121_6)) - x6), h)
            )) fun j121 =>
            LX12_powers_84 F a0 a1 a2 a3 j121 F a3 0 h
          )) fun j78 =>
          LX12_powers_57 F a0 a1 a2 a3 j78 F 0 h
        ) else (
          some ((-12), h)
        )
      )
    )
  ) else (
    some (r1, h)
  )
set_option maxHeartbeats 4000000 in
set_option maxRecDepth 100000 in
theorem mX12_powers (F : Nat) (l : Launch) (g : zG) (B : Nat) (h : HF) (a0 : Nat) (a1 : Int) (a2 : Int) (a3 : Int) (ra0 : kt a0 = 15) (ra1 : rng a1) (ra2 : rng a2) (ra3 : rng a3) : CTi l g B yX12_powers cX12_powers 7 (some .int) 3 [.ref (B + a0), .int (ii a1), .int (ii a2), .int (ii a3)] h (fX12_powers F a0 a1 a2 a3 h) := by
  refine z_enterI (by decide) rfl (Nat.le_of_ble_eq_true rfl) ?_
  intro p e s m args below meth c ls o Q cx hp hl hf hQ
  have hl : lv_has ls 7 [(0, .ref (B + a0)), (1, .int (ii a1)), (2, .int (ii a2)), (3, .int (ii a3))] := hl
  unfold fX12_powers at hf
  refine lv_aload_n cx.1 cx.2.1 dX12_powers_0 rfl (lv_at hl 0 rfl) ?_
  refine z_iconst cx dX12_powers_1 ?_
  refine z_puti cx hp (T := TX12) tyX12 tyX12_ok nmX12 12 0 (by decide) rfl zin_12 (by decide) (by decide) ra0 rfl rfl rfl fl_X12_115 dX12_powers_2 hf (fun h H locs hp hf => ?_)
  refine lv_aload_n cx.1 cx.2.1 dX12_powers_5 rfl (lv_at hl 0 rfl) ?_
  refine lv_iload_n cx.1 cx.2.1 dX12_powers_6 rfl (lv_at hl 1 rfl) ?_
  refine z_ci cx hp (fun o' hx => zrunV (n := 3) (As := [.int (ii a1)]) (rest := []) cx hp (mX12_refuse F l g B h a0 a1 ra0 ra1 o' hx) 12 ra0 (by decide) rfl vw_X12_refuse ml_X12_168 (by decide) rfl hl.1 rfl (Nat.le_of_ble_eq_true rfl) dX12_powers_7) hf (fun r1 h H locs rr1 hp hf => ?_)
  refine lv_istore (lv' := [(4, .int (ii r1)), (0, .ref (B + a0)), (1, .int (ii a1)), (2, .int (ii a2)), (3, .int (ii a3))]) cx.1 cx.2.1 dX12_powers_10 hl (by decide) rfl (fun ls hl => ?_)
  refine lv_iload cx.1 cx.2.1 dX12_powers_12 (lv_at hl 0 rfl) ?_
  refine z_if_eq cx rr1 (tgt := 20) dX12_powers_14 (by decide) hf (fun _ hf => ?_) (fun _ hf => ?_)
  · refine lv_aload_n cx.1 cx.2.1 dX12_powers_20 rfl (lv_at hl 1 rfl) ?_
    refine lv_iload_n cx.1 cx.2.1 dX12_powers_21 rfl (lv_at hl 2 rfl) ?_
    refine lv_iload_n cx.1 cx.2.1 dX12_powers_22 rfl (lv_at hl 3 rfl) ?_
    refine z_ci cx hp (fun o' hx => zrunV (n := 3) (As := [.int (ii a1), .int (ii a2)]) (rest := []) cx hp (mX12_isOp F l g B h a0 a1 a2 ra0 ra1 ra2 o' hx) 12 ra0 (by decide) rfl vw_X12_isOp ml_X12_171 (by decide) rfl hl.1 rfl (Nat.le_of_ble_eq_true rfl) dX12_powers_23) hf (fun r2 h H locs rr2 hp hf => ?_)
    refine z_jn hf (fun j => ∀  (h : HF) (H : Heap) (locs : List Loc) (ls : Array Slot), Hp g B s h H locs → lv_has ls 7 [] → j  h = some o → W p l e (rmn 3) s m args below meth c H locs 0 0 Q (F0 m 38 ls [])) ?_ (fun j38 hj38 hf => ?_)
    · intro  h H locs ls  hp hl hf
      refine z_bipush cx (by decide) dX12_powers_38 ?_
      rw [hQ]; exact z_iret cx hp (by decide) dX12_powers_40 hf
    refine z_if_eq cx rr2 (tgt := 38) dX12_powers_26 (by decide) hf (fun _ hf => ?_) (fun _ hf => ?_)
    · exact hj38  h _ _ ls  hp (lv_sub hl [] rfl) hf
    · refine lv_aload_n cx.1 cx.2.1 dX12_powers_29 rfl (lv_at hl 1 rfl) ?_
      refine lv_iload_n cx.1 cx.2.1 dX12_powers_30 rfl (lv_at hl 2 rfl) ?_
      refine lv_iload_n cx.1 cx.2.1 dX12_powers_31 rfl (lv_at hl 4 rfl) ?_
      refine z_ci cx hp (fun o' hx => zrunV (n := 3) (As := [.int (ii a1), .int (ii a3)]) (rest := []) cx hp (mX12_isElement F l g B h a0 a1 a3 ra0 ra1 ra3 o' hx) 12 ra0 (by decide) rfl vw_X12_isElement ml_X12_164 (by decide) rfl hl.1 rfl (Nat.le_of_ble_eq_true rfl) dX12_powers_32) hf (fun r3 h H locs rr3 hp hf => ?_)
      refine z_if_ne cx rr3 (tgt := 41) dX12_powers_35 (by decide) hf (fun _ hf => ?_) (fun _ hf => ?_)
      · exact hj38  h _ _ ls  hp (lv_sub hl [] rfl) hf
      · refine lv_aload_n cx.1 cx.2.1 dX12_powers_41 rfl (lv_at hl 1 rfl) ?_
        refine lv_iload_n cx.1 cx.2.1 dX12_powers_42 rfl (lv_at hl 2 rfl) ?_
        refine lv_iload_n cx.1 cx.2.1 dX12_powers_43 rfl (lv_at hl 3 rfl) ?_
        refine z_ci cx hp (fun o' hx => zrunV (n := 3) (As := [.int (ii a1), .int (ii a2)]) (rest := []) cx hp (mX12_arity F l g B h a0 a1 a2 ra0 ra1 ra2 o' hx) 12 ra0 (by decide) rfl vw_X12_arity ml_X12_129 (by decide) rfl hl.1 rfl (Nat.le_of_ble_eq_true rfl) dX12_powers_44) hf (fun r4 h H locs rr4 hp hf => ?_)
        refine z_iconst cx dX12_powers_47 ?_
        refine z_icmp_eq cx rr4 (by decide) (tgt := 54) dX12_powers_48 (by decide) hf (fun _ hf => ?_) (fun _ hf => ?_)
        · refine z_iconst cx dX12_powers_54 ?_
          refine lv_istore (lv' := [(5, .int (ii 0)), (4, .int (ii r1)), (0, .ref (B + a0)), (1, .int (ii a1)), (2, .int (ii a2)), (3, .int (ii a3))]) cx.1 cx.2.1 dX12_powers_55 hl (by decide) rfl (fun ls hl => ?_)
          refine z_jn hf (fun j => ∀  (h : HF) (H : Heap) (locs : List Loc) (ls : Array Slot), Hp g B s h H locs → lv_has ls 7 [(0, .ref (B + a0)), (1, .int (ii a1)), (2, .int (ii a2)), (3, .int (ii a3))] → j  h = some o → W p l e (rmn 3) s m args below meth c H locs 0 0 Q (F0 m 78 ls [])) ?_ (fun j78 hj78 hf => ?_)
          · intro  h H locs ls  hp hl hf
            refine lv_iload_n cx.1 cx.2.1 dX12_powers_78 rfl (lv_at hl 3 rfl) ?_
            refine lv_istore (lv' := [(5, .int (ii a3)), (0, .ref (B + a0)), (1, .int (ii a1)), (2, .int (ii a2)), (3, .int (ii a3))]) cx.1 cx.2.1 dX12_powers_79 hl (by decide) rfl (fun ls hl => ?_)
            refine z_iconst cx dX12_powers_81 ?_
            refine lv_istore (lv' := [(6, .int (ii 0)), (5, .int (ii a3)), (0, .ref (B + a0)), (1, .int (ii a1)), (2, .int (ii a2)), (3, .int (ii a3))]) cx.1 cx.2.1 dX12_powers_82 hl (by decide) rfl (fun ls hl => ?_)
            refine z_jn hf (fun j => ∀ (x121_5 : Int) (x121_6 : Int) (h : HF) (H : Heap) (locs : List Loc) (ls : Array Slot), rng x121_5 → rng x121_6 → Hp g B s h H locs → lv_has ls 7 [(0, .ref (B + a0)), (5, .int (ii x121_5)), (6, .int (ii x121_6))] → j x121_5 x121_6 h = some o → W p l e (rmn 3) s m args below meth c H locs 0 0 Q (F0 m 121 ls [])) ?_ (fun j121 hj121 hf => ?_)
            · intro x121_5 x121_6 h H locs ls rx121_5 rx121_6 hp hl hf
              refine z_bipush cx (by decide) dX12_powers_121 ?_
              refine lv_aload_n cx.1 cx.2.1 dX12_powers_123 rfl (lv_at hl 0 rfl) ?_
              refine z_gets cx hp (T := TX12) 12 18 (a0 + 12) rfl zin_12 (by decide) (by decide) ra0 rfl fl_X12_43 dX12_powers_124 ?_
              refine lv_iload cx.1 cx.2.1 dX12_powers_127 (lv_at hl 1 rfl) ?_
              refine z_iald cx hp (zs_12_18 a0 (kt_lt ra0 (by decide)) ra0) rx121_5 dX12_powers_129 hf (fun x5 rx5 hf => ?_)
              refine z_imul cx dX12_powers_130 ?_
              refine lv_iload cx.1 cx.2.1 dX12_powers_131 (lv_at hl 2 rfl) ?_
              refine z_iadd cx dX12_powers_133 ?_
              refine lv_aload_n cx.1 cx.2.1 dX12_powers_134 rfl (lv_at hl 0 rfl) ?_
              refine z_gets cx hp (T := TX12) 12 18 (a0 + 12) rfl zin_12 (by decide) (by decide) ra0 rfl fl_X12_43 dX12_powers_135 ?_
              refine lv_iload cx.1 cx.2.1 dX12_powers_138 (lv_at hl 1 rfl) ?_
              refine z_iald cx hp (zs_12_18 a0 (kt_lt ra0 (by decide)) ra0) rx121_5 dX12_powers_140 hf (fun x6 rx6 hf => ?_)
              refine z_isub cx dX12_powers_141 ?_
              rw [hQ]; exact z_iret cx hp (rng_wr _) dX12_powers_142 hf
            exact wX12_powers_84 F cx a0 ra0 a1 ra1 a2 ra2 a3 ra3 j121 hj121 F a3 0 h _ _ ls ra3 (by decide) hp (lv_sub hl [2, 3, 4, 5, 1, 0] rfl) hf
          exact wX12_powers_57 F cx a0 ra0 a1 ra1 a2 ra2 a3 ra3 j78 hj78 F 0 h _ _ ls (by decide) hp (lv_sub hl [2, 3, 4, 5, 0] rfl) hf
        · refine z_bipush cx (by decide) dX12_powers_51 ?_
          rw [hQ]; exact z_iret cx hp (by decide) dX12_powers_53 hf
  · refine lv_iload cx.1 cx.2.1 dX12_powers_17 (lv_at hl 0 rfl) ?_
    rw [hQ]; exact z_iret cx hp rr1 dX12_powers_19 hf
theorem dX12_centre_0 : decode cX12_centre 0 = .ok (.aload_n 0, 1) := by decide +kernel
theorem dX12_centre_1 : decode cX12_centre 1 = .ok (.iconst 0, 1) := by decide +kernel
theorem dX12_centre_2 : decode cX12_centre 2 = .ok (.putfield 115, 3) := by decide +kernel
theorem dX12_centre_5 : decode cX12_centre 5 = .ok (.aload_n 0, 1) := by decide +kernel
theorem dX12_centre_6 : decode cX12_centre 6 = .ok (.iload_n 1, 1) := by decide +kernel
theorem dX12_centre_7 : decode cX12_centre 7 = .ok (.iload_n 2, 1) := by decide +kernel
theorem dX12_centre_8 : decode cX12_centre 8 = .ok (.invokevirtual 181, 3) := by decide +kernel
theorem dX12_centre_11 : decode cX12_centre 11 = .ok (.istore_n 3, 1) := by decide +kernel
theorem dX12_centre_12 : decode cX12_centre 12 = .ok (.iload_n 3, 1) := by decide +kernel
theorem dX12_centre_13 : decode cX12_centre 13 = .ok (.ifCond .eq 5, 3) := by decide +kernel
theorem dX12_centre_16 : decode cX12_centre 16 = .ok (.iload_n 3, 1) := by decide +kernel
theorem dX12_centre_17 : decode cX12_centre 17 = .ok (.ireturn, 1) := by decide +kernel
theorem dX12_centre_18 : decode cX12_centre 18 = .ok (.iconst 0, 1) := by decide +kernel
theorem dX12_centre_19 : decode cX12_centre 19 = .ok (.istore 4, 2) := by decide +kernel
theorem dX12_centre_21 : decode cX12_centre 21 = .ok (.iconst 0, 1) := by decide +kernel
theorem dX12_centre_22 : decode cX12_centre 22 = .ok (.istore 5, 2) := by decide +kernel
theorem dX12_centre_24 : decode cX12_centre 24 = .ok (.iload 5, 2) := by decide +kernel
theorem dX12_centre_26 : decode cX12_centre 26 = .ok (.aload_n 0, 1) := by decide +kernel
theorem dX12_centre_27 : decode cX12_centre 27 = .ok (.getfield 16, 3) := by decide +kernel
theorem dX12_centre_30 : decode cX12_centre 30 = .ok (.iload_n 1, 1) := by decide +kernel
theorem dX12_centre_31 : decode cX12_centre 31 = .ok (.iaload, 1) := by decide +kernel
theorem dX12_centre_32 : decode cX12_centre 32 = .ok (.if_icmp .ge 85, 3) := by decide +kernel
theorem dX12_centre_35 : decode cX12_centre 35 = .ok (.iconst 1, 1) := by decide +kernel
theorem dX12_centre_36 : decode cX12_centre 36 = .ok (.istore 6, 2) := by decide +kernel
theorem dX12_centre_38 : decode cX12_centre 38 = .ok (.iconst 0, 1) := by decide +kernel
theorem dX12_centre_39 : decode cX12_centre 39 = .ok (.istore 7, 2) := by decide +kernel
theorem dX12_centre_41 : decode cX12_centre 41 = .ok (.iload 7, 2) := by decide +kernel
theorem dX12_centre_43 : decode cX12_centre 43 = .ok (.aload_n 0, 1) := by decide +kernel
theorem dX12_centre_44 : decode cX12_centre 44 = .ok (.getfield 16, 3) := by decide +kernel
theorem dX12_centre_47 : decode cX12_centre 47 = .ok (.iload_n 1, 1) := by decide +kernel
theorem dX12_centre_48 : decode cX12_centre 48 = .ok (.iaload, 1) := by decide +kernel
theorem dX12_centre_49 : decode cX12_centre 49 = .ok (.if_icmp .ge 44, 3) := by decide +kernel
theorem dX12_centre_52 : decode cX12_centre 52 = .ok (.iload 6, 2) := by decide +kernel
theorem dX12_centre_54 : decode cX12_centre 54 = .ok (.ifCond .eq 30, 3) := by decide +kernel
theorem dX12_centre_57 : decode cX12_centre 57 = .ok (.aload_n 0, 1) := by decide +kernel
theorem dX12_centre_58 : decode cX12_centre 58 = .ok (.iload_n 1, 1) := by decide +kernel
theorem dX12_centre_59 : decode cX12_centre 59 = .ok (.iload_n 2, 1) := by decide +kernel
theorem dX12_centre_60 : decode cX12_centre 60 = .ok (.iload 5, 2) := by decide +kernel
theorem dX12_centre_62 : decode cX12_centre 62 = .ok (.iload 7, 2) := by decide +kernel
theorem dX12_centre_64 : decode cX12_centre 64 = .ok (.invokevirtual 178, 3) := by decide +kernel
theorem dX12_centre_67 : decode cX12_centre 67 = .ok (.aload_n 0, 1) := by decide +kernel
theorem dX12_centre_68 : decode cX12_centre 68 = .ok (.iload_n 1, 1) := by decide +kernel
theorem dX12_centre_69 : decode cX12_centre 69 = .ok (.iload_n 2, 1) := by decide +kernel
theorem dX12_centre_70 : decode cX12_centre 70 = .ok (.iload 7, 2) := by decide +kernel
theorem dX12_centre_72 : decode cX12_centre 72 = .ok (.iload 5, 2) := by decide +kernel
theorem dX12_centre_74 : decode cX12_centre 74 = .ok (.invokevirtual 178, 3) := by decide +kernel
theorem dX12_centre_77 : decode cX12_centre 77 = .ok (.if_icmp .ne 7, 3) := by decide +kernel
theorem dX12_centre_80 : decode cX12_centre 80 = .ok (.iconst 1, 1) := by decide +kernel
theorem dX12_centre_81 : decode cX12_centre 81 = .ok (.goto 4, 3) := by decide +kernel
theorem dX12_centre_84 : decode cX12_centre 84 = .ok (.iconst 0, 1) := by decide +kernel
theorem dX12_centre_85 : decode cX12_centre 85 = .ok (.istore 6, 2) := by decide +kernel
theorem dX12_centre_87 : decode cX12_centre 87 = .ok (.iinc 7 1, 3) := by decide +kernel
theorem dX12_centre_90 : decode cX12_centre 90 = .ok (.goto (-49), 3) := by decide +kernel
theorem dX12_centre_93 : decode cX12_centre 93 = .ok (.iload 4, 2) := by decide +kernel
theorem dX12_centre_95 : decode cX12_centre 95 = .ok (.iload 6, 2) := by decide +kernel
theorem dX12_centre_97 : decode cX12_centre 97 = .ok (.ifCond .eq 10, 3) := by decide +kernel
theorem dX12_centre_100 : decode cX12_centre 100 = .ok (.iconst 1, 1) := by decide +kernel
theorem dX12_centre_101 : decode cX12_centre 101 = .ok (.iload 5, 2) := by decide +kernel
theorem dX12_centre_103 : decode cX12_centre 103 = .ok (.ishl, 1) := by decide +kernel
theorem dX12_centre_104 : decode cX12_centre 104 = .ok (.goto 4, 3) := by decide +kernel
theorem dX12_centre_107 : decode cX12_centre 107 = .ok (.iconst 0, 1) := by decide +kernel
theorem dX12_centre_108 : decode cX12_centre 108 = .ok (.ior, 1) := by decide +kernel
theorem dX12_centre_109 : decode cX12_centre 109 = .ok (.istore 4, 2) := by decide +kernel
theorem dX12_centre_111 : decode cX12_centre 111 = .ok (.iinc 5 1, 3) := by decide +kernel
theorem dX12_centre_114 : decode cX12_centre 114 = .ok (.goto (-90), 3) := by decide +kernel
theorem dX12_centre_117 : decode cX12_centre 117 = .ok (.iload 4, 2) := by decide +kernel
theorem dX12_centre_119 : decode cX12_centre 119 = .ok (.ireturn, 1) := by decide +kernel
def LX12_centre_41 (F : Nat) (u0 : Nat) (u1 : Int) (u2 : Int) (u4 : Int) (u5 : Int) (k93 : Int → Int → Int → HF → RO) : Nat → Int → Int → HF → RO
  | 0, _, _, _ => none
  | n + 1, v6, v7, h =>
    zrd h (u0 + 3) u1 fun x5 =>
    if v7 < x5 then (
      zjn (fun (x85_7 : Int) (y85_0 : Int) (h : HF) => (
        zlet (wr (x85_7 + 1)) fun x6 =>
        LX12_centre_41 F u0 u1 u2 u4 u5 k93 n y85_0 x6 h
      )) fun j85 =>
      zjn (fun (x84_7 : Int) (h : HF) => (
        j85 x84_7 0 h
      )) fun j84 =>
      if v6 = 0 then (
        j84 v7 h
      ) else (
        zbd (fX12_value F u0 u1 u2 u5 v7 h) fun r7 h =>
        zbd (fX12_value F u0 u1 u2 v7 u5 h) fun r8 h =>
        if r7 = r8 then (
          j85 v7 1 h
        ) else (
          j84 v7 h
        )
      )
    ) else (
      k93 u4 u5 v6 h
    )
set_option maxHeartbeats 4000000 in
set_option maxRecDepth 100000 in
theorem wX12_centre_41 {p : Program} {l : Launch} {e : Env} {s : State} {m : MethodId} {args : Array Value} {below : List Frame} {meth : Method} {c : Code} {Q : State → Prop} {g : zG} {B : Nat} {o : Int × HF} (F : Nat) (cx : Cx p s m args meth c cX12_centre 8 RX12 (some .int) g B) (u0 : Nat) (ru0 : kt u0 = 15) (u1 : Int) (ru1 : rng u1) (u2 : Int) (ru2 : rng u2) (u4 : Int) (ru4 : rng u4) (u5 : Int) (ru5 : rng u5) (k93 : Int → Int → Int → HF → RO) (hk93 : ∀ (x4 : Int) (x5 : Int) (x6 : Int) (h : HF) (H : Heap) (locs : List Loc) (ls : Array Slot), rng x4 → rng x5 → rng x6 → Hp g B s h H locs → lv_has ls 8 [(0, .ref (B + u0)), (1, .int (ii u1)), (2, .int (ii u2)), (4, .int (ii x4)), (5, .int (ii x5)), (6, .int (ii x6))] → k93 x4 x5 x6 h = some o → W p l e (rmn 3) s m args below meth c H locs 0 0 Q (F0 m 93 ls [])) : ∀ (n : Nat) (v6 : Int) (v7 : Int) (h : HF) (H : Heap) (locs : List Loc) (ls : Array Slot), rng v6 → rng v7 → Hp g B s h H locs → lv_has ls 8 [(0, .ref (B + u0)), (1, .int (ii u1)), (2, .int (ii u2)), (4, .int (ii u4)), (5, .int (ii u5)), (6, .int (ii v6)), (7, .int (ii v7))] → LX12_centre_41 F u0 u1 u2 u4 u5 k93 n v6 v7 h = some o → W p l e (rmn 3) s m args below meth c H locs 0 0 Q (F0 m 41 ls []) := by
  intro n
  induction n with
  | zero =>
    intro v6 v7 h H locs ls rv6 rv7 hp hl hf
    cases hf
  | succ n ih =>
    intro v6 v7 h H locs ls rv6 rv7 hp hl hf
    rw [LX12_centre_41] at hf
    refine lv_iload cx.1 cx.2.1 dX12_centre_41 (lv_at hl 6 rfl) ?_
    refine lv_aload_n cx.1 cx.2.1 dX12_centre_43 rfl (lv_at hl 0 rfl) ?_
    refine z_gets cx hp (T := TX12) 12 6 (u0 + 3) rfl zin_12 (by decide) (by decide) ru0 rfl fl_X12_16 dX12_centre_44 ?_
    refine lv_iload_n cx.1 cx.2.1 dX12_centre_47 rfl (lv_at hl 1 rfl) ?_
    refine z_iald cx hp (zs_12_6 u0 (kt_lt ru0 (by decide)) ru0) ru1 dX12_centre_48 hf (fun x5 rx5 hf => ?_)
    refine z_icmp_ge cx rv7 rx5 (tgt := 93) dX12_centre_49 (by decide) hf (fun _ hf => ?_) (fun _ hf => ?_)
    · refine lv_iload cx.1 cx.2.1 dX12_centre_52 (lv_at hl 5 rfl) ?_
      refine z_jn hf (fun j => ∀ (x85_7 : Int) (y85_0 : Int) (h : HF) (H : Heap) (locs : List Loc) (ls : Array Slot), rng x85_7 → rng y85_0 → Hp g B s h H locs → lv_has ls 8 [(0, .ref (B + u0)), (1, .int (ii u1)), (2, .int (ii u2)), (4, .int (ii u4)), (5, .int (ii u5)), (7, .int (ii x85_7))] → j x85_7 y85_0 h = some o → W p l e (rmn 3) s m args below meth c H locs 0 0 Q (F0 m 85 ls [.int (ii y85_0)])) ?_ (fun j85 hj85 hf => ?_)
      · intro x85_7 y85_0 h H locs ls rx85_7 ry85_0 hp hl hf
        refine lv_istore (lv' := [(6, .int (ii y85_0)), (0, .ref (B + u0)), (1, .int (ii u1)), (2, .int (ii u2)), (4, .int (ii u4)), (5, .int (ii u5)), (7, .int (ii x85_7))]) cx.1 cx.2.1 dX12_centre_85 hl (by decide) rfl (fun ls hl => ?_)
        refine z_iinc cx (fun x6 => [(7, .int (ii x6)), (6, .int (ii y85_0)), (0, .ref (B + u0)), (1, .int (ii u1)), (2, .int (ii u2)), (4, .int (ii u4)), (5, .int (ii u5))]) dX12_centre_87 hl (k := 6) rfl (by decide) (fun _ => rfl) hf (fun x6 rx6 hf ls hl => ?_)
        refine lv_goto (tgt := 41) cx.1 cx.2.1 dX12_centre_90 (by decide) ?_
        exact ih y85_0 x6 h _ _ ls ry85_0 rx6 hp (lv_sub hl [2, 3, 4, 5, 6, 1, 0] rfl) hf
      refine z_jn hf (fun j => ∀ (x84_7 : Int) (h : HF) (H : Heap) (locs : List Loc) (ls : Array Slot), rng x84_7 → Hp g B s h H locs → lv_has ls 8 [(0, .ref (B + u0)), (1, .int (ii u1)), (2, .int (ii u2)), (4, .int (ii u4)), (5, .int (ii u5)), (7, .int (ii x84_7))] → j x84_7 h = some o → W p l e (rmn 3) s m args below meth c H locs 0 0 Q (F0 m 84 ls [])) ?_ (fun j84 hj84 hf => ?_)
      · intro x84_7 h H locs ls rx84_7 hp hl hf
        refine z_iconst cx dX12_centre_84 ?_
        exact hj85 x84_7 0 h _ _ ls rx84_7 (by decide) hp (lv_sub hl [0, 1, 2, 3, 4, 5] rfl) hf
      refine z_if_eq cx rv6 (tgt := 84) dX12_centre_54 (by decide) hf (fun _ hf => ?_) (fun _ hf => ?_)
      · exact hj84 v7 h _ _ ls rv7 hp (lv_sub hl [0, 1, 2, 3, 4, 6] rfl) hf
      · refine lv_aload_n cx.1 cx.2.1 dX12_centre_57 rfl (lv_at hl 0 rfl) ?_
        refine lv_iload_n cx.1 cx.2.1 dX12_centre_58 rfl (lv_at hl 1 rfl) ?_
        refine lv_iload_n cx.1 cx.2.1 dX12_centre_59 rfl (lv_at hl 2 rfl) ?_
        refine lv_iload cx.1 cx.2.1 dX12_centre_60 (lv_at hl 4 rfl) ?_
        refine lv_iload cx.1 cx.2.1 dX12_centre_62 (lv_at hl 6 rfl) ?_
        refine z_ci cx hp (fun o' hx => zrunV (n := 3) (As := [.int (ii u1), .int (ii u2), .int (ii u5), .int (ii v7)]) (rest := []) cx hp (mX12_value F l g B h u0 u1 u2 u5 v7 ru0 ru1 ru2 ru5 rv7 o' hx) 12 ru0 (by decide) rfl vw_X12_value ml_X12_178 (by decide) rfl hl.1 rfl (Nat.le_of_ble_eq_true rfl) dX12_centre_64) hf (fun r7 h H locs rr7 hp hf => ?_)
        refine lv_aload_n cx.1 cx.2.1 dX12_centre_67 rfl (lv_at hl 0 rfl) ?_
        refine lv_iload_n cx.1 cx.2.1 dX12_centre_68 rfl (lv_at hl 1 rfl) ?_
        refine lv_iload_n cx.1 cx.2.1 dX12_centre_69 rfl (lv_at hl 2 rfl) ?_
        refine lv_iload cx.1 cx.2.1 dX12_centre_70 (lv_at hl 6 rfl) ?_
        refine lv_iload cx.1 cx.2.1 dX12_centre_72 (lv_at hl 4 rfl) ?_
        refine z_ci cx hp (fun o' hx => zrunV (n := 3) (As := [.int (ii u1), .int (ii u2), .int (ii v7), .int (ii u5)]) (rest := [.int (ii r7)]) cx hp (mX12_value F l g B h u0 u1 u2 v7 u5 ru0 ru1 ru2 rv7 ru5 o' hx) 12 ru0 (by decide) rfl vw_X12_value ml_X12_178 (by decide) rfl hl.1 rfl (Nat.le_of_ble_eq_true rfl) dX12_centre_74) hf (fun r8 h H locs rr8 hp hf => ?_)
        refine z_icmp_ne cx rr7 rr8 (tgt := 84) dX12_centre_77 (by decide) hf (fun _ hf => ?_) (fun _ hf => ?_)
        · refine z_iconst cx dX12_centre_80 ?_
          refine lv_goto (tgt := 85) cx.1 cx.2.1 dX12_centre_81 (by decide) ?_
          exact hj85 v7 1 h _ _ ls rv7 (by decide) hp (lv_sub hl [0, 1, 2, 3, 4, 6] rfl) hf
        · exact hj84 v7 h _ _ ls rv7 hp (lv_sub hl [0, 1, 2, 3, 4, 6] rfl) hf
    · exact hk93 u4 u5 v6 h _ _ ls ru4 ru5 rv6 hp (lv_sub hl [0, 1, 2, 3, 4, 5] rfl) hf
def LX12_centre_24 (F : Nat) (u0 : Nat) (u1 : Int) (u2 : Int) (k117 : Int → HF → RO) : Nat → Int → Int → HF → RO
  | 0, _, _, _ => none
  | n + 1, v4, v5, h =>
    zrd h (u0 + 3) u1 fun x2 =>
    if v5 < x2 then (
      zjn (fun (x93_4 : Int) (x93_5 : Int) (x93_6 : Int) (h : HF) => (
        zjn (fun (x108_5 : Int) (y108_0 : Int) (y108_1 : Int) (h : HF) => (
          zlet (wor y108_1 y108_0) fun x3 =>
          zlet (wr (x108_5 + 1)) fun x4 =>
          LX12_centre_24 F u0 u1 u2 k117 n x3 x4 h
        )) fun j108 =>
        if x93_6 = 0 then (
          j108 x93_5 0 x93_4 h
        ) else (
          j108 x93_5 (wshl 1 x93_5) x93_4 h
        )
      )) fun j93 =>
      LX12_centre_41 F u0 u1 u2 v4 v5 j93 F 1 0 h
    ) else (
      k117 v4 h
    )
set_option maxHeartbeats 4000000 in
set_option maxRecDepth 100000 in
theorem wX12_centre_24 {p : Program} {l : Launch} {e : Env} {s : State} {m : MethodId} {args : Array Value} {below : List Frame} {meth : Method} {c : Code} {Q : State → Prop} {g : zG} {B : Nat} {o : Int × HF} (F : Nat) (cx : Cx p s m args meth c cX12_centre 8 RX12 (some .int) g B) (u0 : Nat) (ru0 : kt u0 = 15) (u1 : Int) (ru1 : rng u1) (u2 : Int) (ru2 : rng u2) (k117 : Int → HF → RO) (hk117 : ∀ (x4 : Int) (h : HF) (H : Heap) (locs : List Loc) (ls : Array Slot), rng x4 → Hp g B s h H locs → lv_has ls 8 [(4, .int (ii x4))] → k117 x4 h = some o → W p l e (rmn 3) s m args below meth c H locs 0 0 Q (F0 m 117 ls [])) : ∀ (n : Nat) (v4 : Int) (v5 : Int) (h : HF) (H : Heap) (locs : List Loc) (ls : Array Slot), rng v4 → rng v5 → Hp g B s h H locs → lv_has ls 8 [(0, .ref (B + u0)), (1, .int (ii u1)), (2, .int (ii u2)), (4, .int (ii v4)), (5, .int (ii v5))] → LX12_centre_24 F u0 u1 u2 k117 n v4 v5 h = some o → W p l e (rmn 3) s m args below meth c H locs 0 0 Q (F0 m 24 ls []) := by
  intro n
  induction n with
  | zero =>
    intro v4 v5 h H locs ls rv4 rv5 hp hl hf
    cases hf
  | succ n ih =>
    intro v4 v5 h H locs ls rv4 rv5 hp hl hf
    rw [LX12_centre_24] at hf
    refine lv_iload cx.1 cx.2.1 dX12_centre_24 (lv_at hl 4 rfl) ?_
    refine lv_aload_n cx.1 cx.2.1 dX12_centre_26 rfl (lv_at hl 0 rfl) ?_
    refine z_gets cx hp (T := TX12) 12 6 (u0 + 3) rfl zin_12 (by decide) (by decide) ru0 rfl fl_X12_16 dX12_centre_27 ?_
    refine lv_iload_n cx.1 cx.2.1 dX12_centre_30 rfl (lv_at hl 1 rfl) ?_
    refine z_iald cx hp (zs_12_6 u0 (kt_lt ru0 (by decide)) ru0) ru1 dX12_centre_31 hf (fun x2 rx2 hf => ?_)
    refine z_icmp_ge cx rv5 rx2 (tgt := 117) dX12_centre_32 (by decide) hf (fun _ hf => ?_) (fun _ hf => ?_)
    · refine z_iconst cx dX12_centre_35 ?_
      refine lv_istore (lv' := [(6, .int (ii 1)), (0, .ref (B + u0)), (1, .int (ii u1)), (2, .int (ii u2)), (4, .int (ii v4)), (5, .int (ii v5))]) cx.1 cx.2.1 dX12_centre_36 hl (by decide) rfl (fun ls hl => ?_)
      refine z_iconst cx dX12_centre_38 ?_
      refine lv_istore (lv' := [(7, .int (ii 0)), (6, .int (ii 1)), (0, .ref (B + u0)), (1, .int (ii u1)), (2, .int (ii u2)), (4, .int (ii v4)), (5, .int (ii v5))]) cx.1 cx.2.1 dX12_centre_39 hl (by decide) rfl (fun ls hl => ?_)
      refine z_jn hf (fun j => ∀ (x93_4 : Int) (x93_5 : Int) (x93_6 : Int) (h : HF) (H : Heap) (locs : List Loc) (ls : Array Slot), rng x93_4 → rng x93_5 → rng x93_6 → Hp g B s h H locs → lv_has ls 8 [(0, .ref (B + u0)), (1, .int (ii u1)), (2, .int (ii u2)), (4, .int (ii x93_4)), (5, .int (ii x93_5)), (6, .int (ii x93_6))] → j x93_4 x93_5 x93_6 h = some o → W p l e (rmn 3) s m args below meth c H locs 0 0 Q (F0 m 93 ls [])) ?_ (fun j93 hj93 hf => ?_)
      · intro x93_4 x93_5 x93_6 h H locs ls rx93_4 rx93_5 rx93_6 hp hl hf
        refine lv_iload cx.1 cx.2.1 dX12_centre_93 (lv_at hl 3 rfl) ?_
        refine lv_iload cx.1 cx.2.1 dX12_centre_95 (lv_at hl 5 rfl) ?_
        refine z_jn hf (fun j => ∀ (x108_5 : Int) (y108_0 : Int) (y108_1 : Int) (h : HF) (H : Heap) (locs : List Loc) (ls : Array Slot), rng x108_5 → rng y108_0 → rng y108_1 → Hp g B s h H locs → lv_has ls 8 [(0, .ref (B + u0)), (1, .int (ii u1)), (2, .int (ii u2)), (5, .int (ii x108_5))] → j x108_5 y108_0 y108_1 h = some o → W p l e (rmn 3) s m args below meth c H locs 0 0 Q (F0 m 108 ls [.int (ii y108_0), .int (ii y108_1)])) ?_ (fun j108 hj108 hf => ?_)
        · intro x108_5 y108_0 y108_1 h H locs ls rx108_5 ry108_0 ry108_1 hp hl hf
          refine z_ior cx dX12_centre_108 ?_
          refine z_let (rng_or _ _) hf (fun x3 rx3 hf => ?_)
          refine lv_istore (lv' := [(4, .int (ii x3)), (0, .ref (B + u0)), (1, .int (ii u1)), (2, .int (ii u2)), (5, .int (ii x108_5))]) cx.1 cx.2.1 dX12_centre_109 hl (by decide) rfl (fun ls hl => ?_)
          refine z_iinc cx (fun x4 => [(5, .int (ii x4)), (4, .int (ii x3)), (0, .ref (B + u0)), (1, .int (ii u1)), (2, .int (ii u2))]) dX12_centre_111 hl (k := 4) rfl (by decide) (fun _ => rfl) hf (fun x4 rx4 hf ls hl => ?_)
          refine lv_goto (tgt := 24) cx.1 cx.2.1 dX12_centre_114 (by decide) ?_
          exact ih x3 x4 h _ _ ls rx3 rx4 hp (lv_sub hl [2, 3, 4, 1, 0] rfl) hf
        refine z_if_eq cx rx93_6 (tgt := 107) dX12_centre_97 (by decide) hf (fun _ hf => ?_) (fun _ hf => ?_)
        · refine z_iconst cx dX12_centre_107 ?_
          exact hj108 x93_5 0 x93_4 h _ _ ls rx93_5 (by decide) rx93_4 hp (lv_sub hl [0, 1, 2, 4] rfl) hf
        · refine z_iconst cx dX12_centre_100 ?_
          refine lv_iload cx.1 cx.2.1 dX12_centre_101 (lv_at hl 4 rfl) ?_
          refine z_ishl cx dX12_centre_103 ?_
          refine lv_goto (tgt := 108) cx.1 cx.2.1 dX12_centre_104 (by decide) ?_
          exact hj108 x93_5 (wshl 1 x93_5) x93_4 h _ _ ls rx93_5 (rng_shl _ _) rx93_4 hp (lv_sub hl [0, 1, 2, 4] rfl) hf
      exact wX12_centre_41 F cx u0 ru0 u1 ru1 u2 ru2 v4 rv4 v5 rv5 j93 hj93 F 1 0 h _ _ ls (by decide) (by decide) hp (lv_sub hl [2, 3, 4, 5, 6, 1, 0] rfl) hf
    · exact hk117 v4 h _ _ ls rv4 hp (lv_sub hl [3] rfl) hf
def fX12_centre (F : Nat) (a0 : Nat) (a1 : Int) (a2 : Int) (h : HF) : RO :=
  zpf h a0 0 0 fun h =>
  zbd (fX12_refuseTwo F a0 a1 a2 h) fun r1 h =>
  if r1 = 0 then (
    zjn (fun (x117_4 : Int) (h : HF) => (
      some (x117_4, h)
    )) fun j117 =>
    LX12_centre_24 F a0 a1 a2 j117 F 0 0 h
  ) else (
    some (r1, h)
  )
set_option maxHeartbeats 4000000 in
set_option maxRecDepth 100000 in
theorem mX12_centre (F : Nat) (l : Launch) (g : zG) (B : Nat) (h : HF) (a0 : Nat) (a1 : Int) (a2 : Int) (ra0 : kt a0 = 15) (ra1 : rng a1) (ra2 : rng a2) : CTi l g B yX12_centre cX12_centre 8 (some .int) 3 [.ref (B + a0), .int (ii a1), .int (ii a2)] h (fX12_centre F a0 a1 a2 h) := by
  refine z_enterI (by decide) rfl (Nat.le_of_ble_eq_true rfl) ?_
  intro p e s m args below meth c ls o Q cx hp hl hf hQ
  have hl : lv_has ls 8 [(0, .ref (B + a0)), (1, .int (ii a1)), (2, .int (ii a2))] := hl
  unfold fX12_centre at hf
  refine lv_aload_n cx.1 cx.2.1 dX12_centre_0 rfl (lv_at hl 0 rfl) ?_
  refine z_iconst cx dX12_centre_1 ?_
  refine z_puti cx hp (T := TX12) tyX12 tyX12_ok nmX12 12 0 (by decide) rfl zin_12 (by decide) (by decide) ra0 rfl rfl rfl fl_X12_115 dX12_centre_2 hf (fun h H locs hp hf => ?_)
  refine lv_aload_n cx.1 cx.2.1 dX12_centre_5 rfl (lv_at hl 0 rfl) ?_
  refine lv_iload_n cx.1 cx.2.1 dX12_centre_6 rfl (lv_at hl 1 rfl) ?_
  refine lv_iload_n cx.1 cx.2.1 dX12_centre_7 rfl (lv_at hl 2 rfl) ?_
  refine z_ci cx hp (fun o' hx => zrunV (n := 3) (As := [.int (ii a1), .int (ii a2)]) (rest := []) cx hp (mX12_refuseTwo F l g B h a0 a1 a2 ra0 ra1 ra2 o' hx) 12 ra0 (by decide) rfl vw_X12_refuseTwo ml_X12_181 (by decide) rfl hl.1 rfl (Nat.le_of_ble_eq_true rfl) dX12_centre_8) hf (fun r1 h H locs rr1 hp hf => ?_)
  refine lv_istore_n (lv' := [(3, .int (ii r1)), (0, .ref (B + a0)), (1, .int (ii a1)), (2, .int (ii a2))]) cx.1 cx.2.1 dX12_centre_11 rfl hl (by decide) rfl (fun ls hl => ?_)
  refine lv_iload_n cx.1 cx.2.1 dX12_centre_12 rfl (lv_at hl 0 rfl) ?_
  refine z_if_eq cx rr1 (tgt := 18) dX12_centre_13 (by decide) hf (fun _ hf => ?_) (fun _ hf => ?_)
  · refine z_iconst cx dX12_centre_18 ?_
    refine lv_istore (lv' := [(4, .int (ii 0)), (3, .int (ii r1)), (0, .ref (B + a0)), (1, .int (ii a1)), (2, .int (ii a2))]) cx.1 cx.2.1 dX12_centre_19 hl (by decide) rfl (fun ls hl => ?_)
    refine z_iconst cx dX12_centre_21 ?_
    refine lv_istore (lv' := [(5, .int (ii 0)), (4, .int (ii 0)), (3, .int (ii r1)), (0, .ref (B + a0)), (1, .int (ii a1)), (2, .int (ii a2))]) cx.1 cx.2.1 dX12_centre_22 hl (by decide) rfl (fun ls hl => ?_)
    refine z_jn hf (fun j => ∀ (x117_4 : Int) (h : HF) (H : Heap) (locs : List Loc) (ls : Array Slot), rng x117_4 → Hp g B s h H locs → lv_has ls 8 [(4, .int (ii x117_4))] → j x117_4 h = some o → W p l e (rmn 3) s m args below meth c H locs 0 0 Q (F0 m 117 ls [])) ?_ (fun j117 hj117 hf => ?_)
    · intro x117_4 h H locs ls rx117_4 hp hl hf
      refine lv_iload cx.1 cx.2.1 dX12_centre_117 (lv_at hl 0 rfl) ?_
      rw [hQ]; exact z_iret cx hp rx117_4 dX12_centre_119 hf
    exact wX12_centre_24 F cx a0 ra0 a1 ra1 a2 ra2 j117 hj117 F 0 0 h _ _ ls (by decide) (by decide) hp (lv_sub hl [3, 4, 5, 1, 0] rfl) hf
  · refine lv_iload_n cx.1 cx.2.1 dX12_centre_16 rfl (lv_at hl 0 rfl) ?_
    rw [hQ]; exact z_iret cx hp rr1 dX12_centre_17 hf
theorem dX12_nextSign_0 : decode cX12_nextSign 0 = .ok (.aload_n 0, 1) := by decide +kernel
theorem dX12_nextSign_1 : decode cX12_nextSign 1 = .ok (.getfield 206, 3) := by decide +kernel
theorem dX12_nextSign_4 : decode cX12_nextSign 4 = .ok (.aload_n 0, 1) := by decide +kernel
theorem dX12_nextSign_5 : decode cX12_nextSign 5 = .ok (.getfield 209, 3) := by decide +kernel
theorem dX12_nextSign_8 : decode cX12_nextSign 8 = .ok (.if_icmp .ge 44, 3) := by decide +kernel
theorem dX12_nextSign_11 : decode cX12_nextSign 11 = .ok (.aload_n 0, 1) := by decide +kernel
theorem dX12_nextSign_12 : decode cX12_nextSign 12 = .ok (.getfield 7, 3) := by decide +kernel
theorem dX12_nextSign_15 : decode cX12_nextSign 15 = .ok (.aload_n 0, 1) := by decide +kernel
theorem dX12_nextSign_16 : decode cX12_nextSign 16 = .ok (.getfield 206, 3) := by decide +kernel
theorem dX12_nextSign_19 : decode cX12_nextSign 19 = .ok (.iaload, 1) := by decide +kernel
theorem dX12_nextSign_20 : decode cX12_nextSign 20 = .ok (.bipush 32, 2) := by decide +kernel
theorem dX12_nextSign_22 : decode cX12_nextSign 22 = .ok (.if_icmp .eq 17, 3) := by decide +kernel
theorem dX12_nextSign_25 : decode cX12_nextSign 25 = .ok (.aload_n 0, 1) := by decide +kernel
theorem dX12_nextSign_26 : decode cX12_nextSign 26 = .ok (.getfield 7, 3) := by decide +kernel
theorem dX12_nextSign_29 : decode cX12_nextSign 29 = .ok (.aload_n 0, 1) := by decide +kernel
theorem dX12_nextSign_30 : decode cX12_nextSign 30 = .ok (.getfield 206, 3) := by decide +kernel
theorem dX12_nextSign_33 : decode cX12_nextSign 33 = .ok (.iaload, 1) := by decide +kernel
theorem dX12_nextSign_34 : decode cX12_nextSign 34 = .ok (.bipush 10, 2) := by decide +kernel
theorem dX12_nextSign_36 : decode cX12_nextSign 36 = .ok (.if_icmp .ne 16, 3) := by decide +kernel
theorem dX12_nextSign_39 : decode cX12_nextSign 39 = .ok (.aload_n 0, 1) := by decide +kernel
theorem dX12_nextSign_40 : decode cX12_nextSign 40 = .ok (.dup, 1) := by decide +kernel
theorem dX12_nextSign_41 : decode cX12_nextSign 41 = .ok (.getfield 206, 3) := by decide +kernel
theorem dX12_nextSign_44 : decode cX12_nextSign 44 = .ok (.iconst 1, 1) := by decide +kernel
theorem dX12_nextSign_45 : decode cX12_nextSign 45 = .ok (.iadd, 1) := by decide +kernel
theorem dX12_nextSign_46 : decode cX12_nextSign 46 = .ok (.putfield 206, 3) := by decide +kernel
theorem dX12_nextSign_49 : decode cX12_nextSign 49 = .ok (.goto (-49), 3) := by decide +kernel
theorem dX12_nextSign_52 : decode cX12_nextSign 52 = .ok (.aload_n 0, 1) := by decide +kernel
theorem dX12_nextSign_53 : decode cX12_nextSign 53 = .ok (.aload_n 0, 1) := by decide +kernel
theorem dX12_nextSign_54 : decode cX12_nextSign 54 = .ok (.getfield 206, 3) := by decide +kernel
theorem dX12_nextSign_57 : decode cX12_nextSign 57 = .ok (.putfield 212, 3) := by decide +kernel
theorem dX12_nextSign_60 : decode cX12_nextSign 60 = .ok (.aload_n 0, 1) := by decide +kernel
theorem dX12_nextSign_61 : decode cX12_nextSign 61 = .ok (.aload_n 0, 1) := by decide +kernel
theorem dX12_nextSign_62 : decode cX12_nextSign 62 = .ok (.getfield 206, 3) := by decide +kernel
theorem dX12_nextSign_65 : decode cX12_nextSign 65 = .ok (.aload_n 0, 1) := by decide +kernel
theorem dX12_nextSign_66 : decode cX12_nextSign 66 = .ok (.getfield 209, 3) := by decide +kernel
theorem dX12_nextSign_69 : decode cX12_nextSign 69 = .ok (.if_icmp .ge 15, 3) := by decide +kernel
theorem dX12_nextSign_72 : decode cX12_nextSign 72 = .ok (.aload_n 0, 1) := by decide +kernel
theorem dX12_nextSign_73 : decode cX12_nextSign 73 = .ok (.getfield 7, 3) := by decide +kernel
theorem dX12_nextSign_76 : decode cX12_nextSign 76 = .ok (.aload_n 0, 1) := by decide +kernel
theorem dX12_nextSign_77 : decode cX12_nextSign 77 = .ok (.getfield 206, 3) := by decide +kernel
theorem dX12_nextSign_80 : decode cX12_nextSign 80 = .ok (.iaload, 1) := by decide +kernel
theorem dX12_nextSign_81 : decode cX12_nextSign 81 = .ok (.goto 4, 3) := by decide +kernel
theorem dX12_nextSign_84 : decode cX12_nextSign 84 = .ok (.iconst (-1), 1) := by decide +kernel
theorem dX12_nextSign_85 : decode cX12_nextSign 85 = .ok (.putfield 215, 3) := by decide +kernel
theorem dX12_nextSign_88 : decode cX12_nextSign 88 = .ok (.aload_n 0, 1) := by decide +kernel
theorem dX12_nextSign_89 : decode cX12_nextSign 89 = .ok (.dup, 1) := by decide +kernel
theorem dX12_nextSign_90 : decode cX12_nextSign 90 = .ok (.getfield 206, 3) := by decide +kernel
theorem dX12_nextSign_93 : decode cX12_nextSign 93 = .ok (.iconst 1, 1) := by decide +kernel
theorem dX12_nextSign_94 : decode cX12_nextSign 94 = .ok (.iadd, 1) := by decide +kernel
theorem dX12_nextSign_95 : decode cX12_nextSign 95 = .ok (.putfield 206, 3) := by decide +kernel
theorem dX12_nextSign_98 : decode cX12_nextSign 98 = .ok (.return_, 1) := by decide +kernel
def LX12_nextSign_0 (F : Nat) (u0 : Nat) (k52 : HF → RO) : Nat → HF → RO
  | 0, _ => none
  | n + 1, h =>
    zgf h u0 32 fun x7 =>
    zgf h u0 31 fun x8 =>
    if x7 < x8 then (
      zgf h u0 32 fun x9 =>
      zrd h (u0 + 1) x9 fun x10 =>
      zjn (fun  (h : HF) => (
        zgf h u0 32 fun x11 =>
        zpf h u0 32 (wr (x11 + 1)) fun h =>
        LX12_nextSign_0 F u0 k52 n  h
      )) fun j39 =>
      if x10 = 32 then (
        j39  h
      ) else (
        zgf h u0 32 fun x12 =>
        zrd h (u0 + 1) x12 fun x13 =>
        if x13 = 10 then (
          j39  h
        ) else (
          k52  h
        )
      )
    ) else (
      k52  h
    )
set_option maxHeartbeats 4000000 in
set_option maxRecDepth 100000 in
theorem wX12_nextSign_0 {p : Program} {l : Launch} {e : Env} {s : State} {m : MethodId} {args : Array Value} {below : List Frame} {meth : Method} {c : Code} {Q : State → Prop} {g : zG} {B : Nat} {o : Int × HF} (F : Nat) (cx : Cx p s m args meth c cX12_nextSign 1 RX12 none g B) (u0 : Nat) (ru0 : kt u0 = 15) (k52 : HF → RO) (hk52 : ∀  (h : HF) (H : Heap) (locs : List Loc) (ls : Array Slot), Hp g B s h H locs → lv_has ls 1 [(0, .ref (B + u0))] → k52  h = some o → W p l e (rmn 0) s m args below meth c H locs 0 0 Q (F0 m 52 ls [])) : ∀ (n : Nat)  (h : HF) (H : Heap) (locs : List Loc) (ls : Array Slot), Hp g B s h H locs → lv_has ls 1 [(0, .ref (B + u0))] → LX12_nextSign_0 F u0 k52 n  h = some o → W p l e (rmn 0) s m args below meth c H locs 0 0 Q (F0 m 0 ls []) := by
  intro n
  induction n with
  | zero =>
    intro  h H locs ls  hp hl hf
    cases hf
  | succ n ih =>
    intro  h H locs ls  hp hl hf
    rw [LX12_nextSign_0] at hf
    refine lv_aload_n cx.1 cx.2.1 dX12_nextSign_0 rfl (lv_at hl 0 rfl) ?_
    refine z_geti cx hp (T := TX12) 12 32 rfl zin_12 (by decide) (by decide) ru0 rfl fl_X12_206 dX12_nextSign_1 hf (fun x7 rx7 hf => ?_)
    refine lv_aload_n cx.1 cx.2.1 dX12_nextSign_4 rfl (lv_at hl 0 rfl) ?_
    refine z_geti cx hp (T := TX12) 12 31 rfl zin_12 (by decide) (by decide) ru0 rfl fl_X12_209 dX12_nextSign_5 hf (fun x8 rx8 hf => ?_)
    refine z_icmp_ge cx rx7 rx8 (tgt := 52) dX12_nextSign_8 (by decide) hf (fun _ hf => ?_) (fun _ hf => ?_)
    · refine lv_aload_n cx.1 cx.2.1 dX12_nextSign_11 rfl (lv_at hl 0 rfl) ?_
      refine z_gets cx hp (T := TX12) 12 1 (u0 + 1) rfl zin_12 (by decide) (by decide) ru0 rfl fl_X12_7 dX12_nextSign_12 ?_
      refine lv_aload_n cx.1 cx.2.1 dX12_nextSign_15 rfl (lv_at hl 0 rfl) ?_
      refine z_geti cx hp (T := TX12) 12 32 rfl zin_12 (by decide) (by decide) ru0 rfl fl_X12_206 dX12_nextSign_16 hf (fun x9 rx9 hf => ?_)
      refine z_iald cx hp (zs_12_1 u0 (kt_lt ru0 (by decide)) ru0) rx9 dX12_nextSign_19 hf (fun x10 rx10 hf => ?_)
      refine z_bipush cx (by decide) dX12_nextSign_20 ?_
      refine z_jn hf (fun j => ∀  (h : HF) (H : Heap) (locs : List Loc) (ls : Array Slot), Hp g B s h H locs → lv_has ls 1 [(0, .ref (B + u0))] → j  h = some o → W p l e (rmn 0) s m args below meth c H locs 0 0 Q (F0 m 39 ls [])) ?_ (fun j39 hj39 hf => ?_)
      · intro  h H locs ls  hp hl hf
        refine lv_aload_n cx.1 cx.2.1 dX12_nextSign_39 rfl (lv_at hl 0 rfl) ?_
        refine lv_dup cx.1 cx.2.1 dX12_nextSign_40 rfl ?_
        refine z_geti cx hp (T := TX12) 12 32 rfl zin_12 (by decide) (by decide) ru0 rfl fl_X12_206 dX12_nextSign_41 hf (fun x11 rx11 hf => ?_)
        refine z_iconst cx dX12_nextSign_44 ?_
        refine z_iadd cx dX12_nextSign_45 ?_
        refine z_puti cx hp (T := TX12) tyX12 tyX12_ok nmX12 12 32 (rng_wr _) rfl zin_12 (by decide) (by decide) ru0 rfl rfl rfl fl_X12_206 dX12_nextSign_46 hf (fun h H locs hp hf => ?_)
        refine lv_goto (tgt := 0) cx.1 cx.2.1 dX12_nextSign_49 (by decide) ?_
        exact ih  h _ _ ls  hp (lv_sub hl [0] rfl) hf
      refine z_icmp_eq cx rx10 (by decide) (tgt := 39) dX12_nextSign_22 (by decide) hf (fun _ hf => ?_) (fun _ hf => ?_)
      · exact hj39  h _ _ ls  hp (lv_sub hl [0] rfl) hf
      · refine lv_aload_n cx.1 cx.2.1 dX12_nextSign_25 rfl (lv_at hl 0 rfl) ?_
        refine z_gets cx hp (T := TX12) 12 1 (u0 + 1) rfl zin_12 (by decide) (by decide) ru0 rfl fl_X12_7 dX12_nextSign_26 ?_
        refine lv_aload_n cx.1 cx.2.1 dX12_nextSign_29 rfl (lv_at hl 0 rfl) ?_
        refine z_geti cx hp (T := TX12) 12 32 rfl zin_12 (by decide) (by decide) ru0 rfl fl_X12_206 dX12_nextSign_30 hf (fun x12 rx12 hf => ?_)
        refine z_iald cx hp (zs_12_1 u0 (kt_lt ru0 (by decide)) ru0) rx12 dX12_nextSign_33 hf (fun x13 rx13 hf => ?_)
        refine z_bipush cx (by decide) dX12_nextSign_34 ?_
        refine z_icmp_ne cx rx13 (by decide) (tgt := 52) dX12_nextSign_36 (by decide) hf (fun _ hf => ?_) (fun _ hf => ?_)
        · exact hj39  h _ _ ls  hp (lv_sub hl [0] rfl) hf
        · exact hk52  h _ _ ls  hp (lv_sub hl [0] rfl) hf
    · exact hk52  h _ _ ls  hp (lv_sub hl [0] rfl) hf
def fX12_nextSign (F : Nat) (a0 : Nat) (h : HF) : RO :=
  zjn (fun  (h : HF) => (
    zgf h a0 32 fun x1 =>
    zpf h a0 34 x1 fun h =>
    zgf h a0 32 fun x2 =>
    zgf h a0 31 fun x3 =>
    zjn (fun (y85_0 : Int) (y85_1 : Nat) (h : HF) => (
      zpf h y85_1 33 y85_0 fun h =>
      zgf h a0 32 fun x4 =>
      zpf h a0 32 (wr (x4 + 1)) fun h =>
      some (0, h)
    )) fun j85 =>
    if x2 < x3 then (
      zgf h a0 32 fun x5 =>
      zrd h (a0 + 1) x5 fun x6 =>
      j85 x6 a0 h
    ) else (
      j85 (-1) a0 h
    )
  )) fun j52 =>
  LX12_nextSign_0 F a0 j52 F  h
set_option maxHeartbeats 4000000 in
set_option maxRecDepth 100000 in
theorem mX12_nextSign (F : Nat) (l : Launch) (g : zG) (B : Nat) (h : HF) (a0 : Nat) (ra0 : kt a0 = 15) : CTv l g B yX12_nextSign cX12_nextSign 1 0 [.ref (B + a0)] h (fX12_nextSign F a0 h) := by
  refine z_enterV (by decide) rfl (Nat.le_of_ble_eq_true rfl) ?_
  intro p e s m args below meth c ls o Q cx hp hl hf hQ
  have hl : lv_has ls 1 [(0, .ref (B + a0))] := hl
  unfold fX12_nextSign at hf
  refine z_jn hf (fun j => ∀  (h : HF) (H : Heap) (locs : List Loc) (ls : Array Slot), Hp g B s h H locs → lv_has ls 1 [(0, .ref (B + a0))] → j  h = some o → W p l e (rmn 0) s m args below meth c H locs 0 0 Q (F0 m 52 ls [])) ?_ (fun j52 hj52 hf => ?_)
  · intro  h H locs ls  hp hl hf
    refine lv_aload_n cx.1 cx.2.1 dX12_nextSign_52 rfl (lv_at hl 0 rfl) ?_
    refine lv_aload_n cx.1 cx.2.1 dX12_nextSign_53 rfl (lv_at hl 0 rfl) ?_
    refine z_geti cx hp (T := TX12) 12 32 rfl zin_12 (by decide) (by decide) ra0 rfl fl_X12_206 dX12_nextSign_54 hf (fun x1 rx1 hf => ?_)
    refine z_puti cx hp (T := TX12) tyX12 tyX12_ok nmX12 12 34 rx1 rfl zin_12 (by decide) (by decide) ra0 rfl rfl rfl fl_X12_212 dX12_nextSign_57 hf (fun h H locs hp hf => ?_)
    refine lv_aload_n cx.1 cx.2.1 dX12_nextSign_60 rfl (lv_at hl 0 rfl) ?_
    refine lv_aload_n cx.1 cx.2.1 dX12_nextSign_61 rfl (lv_at hl 0 rfl) ?_
    refine z_geti cx hp (T := TX12) 12 32 rfl zin_12 (by decide) (by decide) ra0 rfl fl_X12_206 dX12_nextSign_62 hf (fun x2 rx2 hf => ?_)
    refine lv_aload_n cx.1 cx.2.1 dX12_nextSign_65 rfl (lv_at hl 0 rfl) ?_
    refine z_geti cx hp (T := TX12) 12 31 rfl zin_12 (by decide) (by decide) ra0 rfl fl_X12_209 dX12_nextSign_66 hf (fun x3 rx3 hf => ?_)
    refine z_jn hf (fun j => ∀ (y85_0 : Int) (y85_1 : Nat) (h : HF) (H : Heap) (locs : List Loc) (ls : Array Slot), rng y85_0 → kt y85_1 = 15 → Hp g B s h H locs → lv_has ls 1 [(0, .ref (B + a0))] → j y85_0 y85_1 h = some o → W p l e (rmn 0) s m args below meth c H locs 0 0 Q (F0 m 85 ls [.int (ii y85_0), .ref (B + y85_1)])) ?_ (fun j85 hj85 hf => ?_)
    · intro y85_0 y85_1 h H locs ls ry85_0 ry85_1 hp hl hf
      refine z_puti cx hp (T := TX12) tyX12 tyX12_ok nmX12 12 33 ry85_0 rfl zin_12 (by decide) (by decide) ry85_1 rfl rfl rfl fl_X12_215 dX12_nextSign_85 hf (fun h H locs hp hf => ?_)
      refine lv_aload_n cx.1 cx.2.1 dX12_nextSign_88 rfl (lv_at hl 0 rfl) ?_
      refine lv_dup cx.1 cx.2.1 dX12_nextSign_89 rfl ?_
      refine z_geti cx hp (T := TX12) 12 32 rfl zin_12 (by decide) (by decide) ra0 rfl fl_X12_206 dX12_nextSign_90 hf (fun x4 rx4 hf => ?_)
      refine z_iconst cx dX12_nextSign_93 ?_
      refine z_iadd cx dX12_nextSign_94 ?_
      refine z_puti cx hp (T := TX12) tyX12 tyX12_ok nmX12 12 32 (rng_wr _) rfl zin_12 (by decide) (by decide) ra0 rfl rfl rfl fl_X12_206 dX12_nextSign_95 hf (fun h H locs hp hf => ?_)
      rw [hQ]; exact z_vret cx hp dX12_nextSign_98 hf
    refine z_icmp_ge cx rx2 rx3 (tgt := 84) dX12_nextSign_69 (by decide) hf (fun _ hf => ?_) (fun _ hf => ?_)
    · refine lv_aload_n cx.1 cx.2.1 dX12_nextSign_72 rfl (lv_at hl 0 rfl) ?_
      refine z_gets cx hp (T := TX12) 12 1 (a0 + 1) rfl zin_12 (by decide) (by decide) ra0 rfl fl_X12_7 dX12_nextSign_73 ?_
      refine lv_aload_n cx.1 cx.2.1 dX12_nextSign_76 rfl (lv_at hl 0 rfl) ?_
      refine z_geti cx hp (T := TX12) 12 32 rfl zin_12 (by decide) (by decide) ra0 rfl fl_X12_206 dX12_nextSign_77 hf (fun x5 rx5 hf => ?_)
      refine z_iald cx hp (zs_12_1 a0 (kt_lt ra0 (by decide)) ra0) rx5 dX12_nextSign_80 hf (fun x6 rx6 hf => ?_)
      refine lv_goto (tgt := 85) cx.1 cx.2.1 dX12_nextSign_81 (by decide) ?_
      exact hj85 x6 a0 h _ _ ls rx6 ra0 hp (lv_sub hl [0] rfl) hf
    · refine z_iconst cx dX12_nextSign_84 ?_
      exact hj85 (-1) a0 h _ _ ls (by decide) ra0 hp (lv_sub hl [0] rfl) hf
  exact wX12_nextSign_0 F cx a0 ra0 j52 hj52 F  h _ _ ls  hp (lv_sub hl [0] rfl) hf
theorem dX12_wrong_0 : decode cX12_wrong 0 = .ok (.aload_n 0, 1) := by decide +kernel
theorem dX12_wrong_1 : decode cX12_wrong 1 = .ok (.getfield 218, 3) := by decide +kernel
theorem dX12_wrong_4 : decode cX12_wrong 4 = .ok (.ifCond .ne 16, 3) := by decide +kernel
theorem dX12_wrong_7 : decode cX12_wrong 7 = .ok (.aload_n 0, 1) := by decide +kernel
theorem dX12_wrong_8 : decode cX12_wrong 8 = .ok (.iload_n 1, 1) := by decide +kernel
theorem dX12_wrong_9 : decode cX12_wrong 9 = .ok (.putfield 218, 3) := by decide +kernel
theorem dX12_wrong_12 : decode cX12_wrong 12 = .ok (.aload_n 0, 1) := by decide +kernel
theorem dX12_wrong_13 : decode cX12_wrong 13 = .ok (.aload_n 0, 1) := by decide +kernel
theorem dX12_wrong_14 : decode cX12_wrong 14 = .ok (.getfield 212, 3) := by decide +kernel
theorem dX12_wrong_17 : decode cX12_wrong 17 = .ok (.putfield 221, 3) := by decide +kernel
theorem dX12_wrong_20 : decode cX12_wrong 20 = .ok (.return_, 1) := by decide +kernel
def fX12_wrong (F : Nat) (a0 : Nat) (a1 : Int) (h : HF) : RO :=
  zgf h a0 35 fun x1 =>
  zjn (fun  (h : HF) => (
    some (0, h)
  )) fun j20 =>
  if x1 = 0 then (
    zpf h a0 35 a1 fun h =>
    zgf h a0 34 fun x2 =>
    zpf h a0 36 x2 fun h =>
    j20  h
  ) else (
    j20  h
  )
set_option maxHeartbeats 4000000 in
set_option maxRecDepth 100000 in
theorem mX12_wrong (F : Nat) (l : Launch) (g : zG) (B : Nat) (h : HF) (a0 : Nat) (a1 : Int) (ra0 : kt a0 = 15) (ra1 : rng a1) : CTv l g B yX12_wrong cX12_wrong 2 0 [.ref (B + a0), .int (ii a1)] h (fX12_wrong F a0 a1 h) := by
  refine z_enterV (by decide) rfl (Nat.le_of_ble_eq_true rfl) ?_
  intro p e s m args below meth c ls o Q cx hp hl hf hQ
  have hl : lv_has ls 2 [(0, .ref (B + a0)), (1, .int (ii a1))] := hl
  unfold fX12_wrong at hf
  refine lv_aload_n cx.1 cx.2.1 dX12_wrong_0 rfl (lv_at hl 0 rfl) ?_
  refine z_geti cx hp (T := TX12) 12 35 rfl zin_12 (by decide) (by decide) ra0 rfl fl_X12_218 dX12_wrong_1 hf (fun x1 rx1 hf => ?_)
  refine z_jn hf (fun j => ∀  (h : HF) (H : Heap) (locs : List Loc) (ls : Array Slot), Hp g B s h H locs → lv_has ls 2 [] → j  h = some o → W p l e (rmn 0) s m args below meth c H locs 0 0 Q (F0 m 20 ls [])) ?_ (fun j20 hj20 hf => ?_)
  · intro  h H locs ls  hp hl hf
    rw [hQ]; exact z_vret cx hp dX12_wrong_20 hf
  refine z_if_ne cx rx1 (tgt := 20) dX12_wrong_4 (by decide) hf (fun _ hf => ?_) (fun _ hf => ?_)
  · refine lv_aload_n cx.1 cx.2.1 dX12_wrong_7 rfl (lv_at hl 0 rfl) ?_
    refine lv_iload_n cx.1 cx.2.1 dX12_wrong_8 rfl (lv_at hl 1 rfl) ?_
    refine z_puti cx hp (T := TX12) tyX12 tyX12_ok nmX12 12 35 ra1 rfl zin_12 (by decide) (by decide) ra0 rfl rfl rfl fl_X12_218 dX12_wrong_9 hf (fun h H locs hp hf => ?_)
    refine lv_aload_n cx.1 cx.2.1 dX12_wrong_12 rfl (lv_at hl 0 rfl) ?_
    refine lv_aload_n cx.1 cx.2.1 dX12_wrong_13 rfl (lv_at hl 0 rfl) ?_
    refine z_geti cx hp (T := TX12) 12 34 rfl zin_12 (by decide) (by decide) ra0 rfl fl_X12_212 dX12_wrong_14 hf (fun x2 rx2 hf => ?_)
    refine z_puti cx hp (T := TX12) tyX12 tyX12_ok nmX12 12 36 rx2 rfl zin_12 (by decide) (by decide) ra0 rfl rfl rfl fl_X12_221 dX12_wrong_17 hf (fun h H locs hp hf => ?_)
    exact hj20  h _ _ ls  hp (lv_sub hl [] rfl) hf
  · exact hj20  h _ _ ls  hp (lv_sub hl [] rfl) hf
theorem dX12_takes_0 : decode cX12_takes 0 = .ok (.aload_n 0, 1) := by decide +kernel
theorem dX12_takes_1 : decode cX12_takes 1 = .ok (.getfield 218, 3) := by decide +kernel
theorem dX12_takes_4 : decode cX12_takes 4 = .ok (.ifCond .ne 15, 3) := by decide +kernel
theorem dX12_takes_7 : decode cX12_takes 7 = .ok (.aload_n 0, 1) := by decide +kernel
theorem dX12_takes_8 : decode cX12_takes 8 = .ok (.getfield 215, 3) := by decide +kernel
theorem dX12_takes_11 : decode cX12_takes 11 = .ok (.iload_n 1, 1) := by decide +kernel
theorem dX12_takes_12 : decode cX12_takes 12 = .ok (.if_icmp .ne 7, 3) := by decide +kernel
theorem dX12_takes_15 : decode cX12_takes 15 = .ok (.iconst 1, 1) := by decide +kernel
theorem dX12_takes_16 : decode cX12_takes 16 = .ok (.goto 4, 3) := by decide +kernel
theorem dX12_takes_19 : decode cX12_takes 19 = .ok (.iconst 0, 1) := by decide +kernel
theorem dX12_takes_20 : decode cX12_takes 20 = .ok (.istore_n 2, 1) := by decide +kernel
theorem dX12_takes_21 : decode cX12_takes 21 = .ok (.iload_n 2, 1) := by decide +kernel
theorem dX12_takes_22 : decode cX12_takes 22 = .ok (.ifCond .eq 7, 3) := by decide +kernel
theorem dX12_takes_25 : decode cX12_takes 25 = .ok (.aload_n 0, 1) := by decide +kernel
theorem dX12_takes_26 : decode cX12_takes 26 = .ok (.invokevirtual 224, 3) := by decide +kernel
theorem dX12_takes_29 : decode cX12_takes 29 = .ok (.iload_n 2, 1) := by decide +kernel
theorem dX12_takes_30 : decode cX12_takes 30 = .ok (.ireturn, 1) := by decide +kernel
def fX12_takes (F : Nat) (a0 : Nat) (a1 : Int) (h : HF) : RO :=
  zgf h a0 35 fun x1 =>
  zjn (fun (y20_0 : Int) (h : HF) => (
    zjn (fun (x29_2 : Int) (h : HF) => (
      zrz x29_2 h
    )) fun j29 =>
    if y20_0 = 0 then (
      j29 y20_0 h
    ) else (
      zbd (fX12_nextSign F a0 h) fun _ h =>
      j29 y20_0 h
    )
  )) fun j20 =>
  zjn (fun  (h : HF) => (
    j20 0 h
  )) fun j19 =>
  if x1 = 0 then (
    zgf h a0 33 fun x3 =>
    if x3 = a1 then (
      j20 1 h
    ) else (
      j19  h
    )
  ) else (
    j19  h
  )
set_option maxHeartbeats 4000000 in
set_option maxRecDepth 100000 in
theorem mX12_takes (F : Nat) (l : Launch) (g : zG) (B : Nat) (h : HF) (a0 : Nat) (a1 : Int) (ra0 : kt a0 = 15) (ra1 : rng a1) : CTi l g B yX12_takes cX12_takes 3 (some .boolean) 1 [.ref (B + a0), .int (ii a1)] h (fX12_takes F a0 a1 h) := by
  refine z_enterI (by decide) rfl (Nat.le_of_ble_eq_true rfl) ?_
  intro p e s m args below meth c ls o Q cx hp hl hf hQ
  have hl : lv_has ls 3 [(0, .ref (B + a0)), (1, .int (ii a1))] := hl
  unfold fX12_takes at hf
  refine lv_aload_n cx.1 cx.2.1 dX12_takes_0 rfl (lv_at hl 0 rfl) ?_
  refine z_geti cx hp (T := TX12) 12 35 rfl zin_12 (by decide) (by decide) ra0 rfl fl_X12_218 dX12_takes_1 hf (fun x1 rx1 hf => ?_)
  refine z_jn hf (fun j => ∀ (y20_0 : Int) (h : HF) (H : Heap) (locs : List Loc) (ls : Array Slot), rng y20_0 → Hp g B s h H locs → lv_has ls 3 [(0, .ref (B + a0))] → j y20_0 h = some o → W p l e (rmn 1) s m args below meth c H locs 0 0 Q (F0 m 20 ls [.int (ii y20_0)])) ?_ (fun j20 hj20 hf => ?_)
  · intro y20_0 h H locs ls ry20_0 hp hl hf
    refine lv_istore_n (lv' := [(2, .int (ii y20_0)), (0, .ref (B + a0))]) cx.1 cx.2.1 dX12_takes_20 rfl hl (by decide) rfl (fun ls hl => ?_)
    refine lv_iload_n cx.1 cx.2.1 dX12_takes_21 rfl (lv_at hl 0 rfl) ?_
    refine z_jn hf (fun j => ∀ (x29_2 : Int) (h : HF) (H : Heap) (locs : List Loc) (ls : Array Slot), rng x29_2 → Hp g B s h H locs → lv_has ls 3 [(2, .int (ii x29_2))] → j x29_2 h = some o → W p l e (rmn 1) s m args below meth c H locs 0 0 Q (F0 m 29 ls [])) ?_ (fun j29 hj29 hf => ?_)
    · intro x29_2 h H locs ls rx29_2 hp hl hf
      refine lv_iload_n cx.1 cx.2.1 dX12_takes_29 rfl (lv_at hl 0 rfl) ?_
      rw [hQ]; exact z_zret cx hp dX12_takes_30 hf
    refine z_if_eq cx ry20_0 (tgt := 29) dX12_takes_22 (by decide) hf (fun _ hf => ?_) (fun _ hf => ?_)
    · exact hj29 y20_0 h _ _ ls ry20_0 hp (lv_sub hl [0] rfl) hf
    · refine lv_aload_n cx.1 cx.2.1 dX12_takes_25 rfl (lv_at hl 1 rfl) ?_
      refine z_cv cx hp (fun o' hx => zrunV (n := 1) (As := []) (rest := []) cx hp (mX12_nextSign F l g B h a0 ra0 o' hx) 12 ra0 (by decide) rfl vw_X12_nextSign ml_X12_224 (by decide) rfl hl.1 rfl (Nat.le_of_ble_eq_true rfl) dX12_takes_26) hf (fun _ h H locs hp hf => ?_)
      exact hj29 y20_0 h _ _ ls ry20_0 hp (lv_sub hl [0] rfl) hf
  refine z_jn hf (fun j => ∀  (h : HF) (H : Heap) (locs : List Loc) (ls : Array Slot), Hp g B s h H locs → lv_has ls 3 [(0, .ref (B + a0))] → j  h = some o → W p l e (rmn 1) s m args below meth c H locs 0 0 Q (F0 m 19 ls [])) ?_ (fun j19 hj19 hf => ?_)
  · intro  h H locs ls  hp hl hf
    refine z_iconst cx dX12_takes_19 ?_
    exact hj20 0 h _ _ ls (by decide) hp (lv_sub hl [0] rfl) hf
  refine z_if_ne cx rx1 (tgt := 19) dX12_takes_4 (by decide) hf (fun _ hf => ?_) (fun _ hf => ?_)
  · refine lv_aload_n cx.1 cx.2.1 dX12_takes_7 rfl (lv_at hl 0 rfl) ?_
    refine z_geti cx hp (T := TX12) 12 33 rfl zin_12 (by decide) (by decide) ra0 rfl fl_X12_215 dX12_takes_8 hf (fun x3 rx3 hf => ?_)
    refine lv_iload_n cx.1 cx.2.1 dX12_takes_11 rfl (lv_at hl 1 rfl) ?_
    refine z_icmp_ne cx rx3 ra1 (tgt := 19) dX12_takes_12 (by decide) hf (fun _ hf => ?_) (fun _ hf => ?_)
    · refine z_iconst cx dX12_takes_15 ?_
      refine lv_goto (tgt := 20) cx.1 cx.2.1 dX12_takes_16 (by decide) ?_
      exact hj20 1 h _ _ ls (by decide) hp (lv_sub hl [0] rfl) hf
    · exact hj19  h _ _ ls  hp (lv_sub hl [0] rfl) hf
  · exact hj19  h _ _ ls  hp (lv_sub hl [0] rfl) hf
theorem dX12_must_0 : decode cX12_must 0 = .ok (.aload_n 0, 1) := by decide +kernel
theorem dX12_must_1 : decode cX12_must 1 = .ok (.iload_n 1, 1) := by decide +kernel
theorem dX12_must_2 : decode cX12_must 2 = .ok (.invokevirtual 227, 3) := by decide +kernel
theorem dX12_must_5 : decode cX12_must 5 = .ok (.ifCond .ne 8, 3) := by decide +kernel
theorem dX12_must_8 : decode cX12_must 8 = .ok (.aload_n 0, 1) := by decide +kernel
theorem dX12_must_9 : decode cX12_must 9 = .ok (.iconst 1, 1) := by decide +kernel
theorem dX12_must_10 : decode cX12_must 10 = .ok (.invokevirtual 230, 3) := by decide +kernel
theorem dX12_must_13 : decode cX12_must 13 = .ok (.return_, 1) := by decide +kernel
def fX12_must (F : Nat) (a0 : Nat) (a1 : Int) (h : HF) : RO :=
  zbd (fX12_takes F a0 a1 h) fun r1 h =>
  zjn (fun  (h : HF) => (
    some (0, h)
  )) fun j13 =>
  if r1 = 0 then (
    zbd (fX12_wrong F a0 1 h) fun _ h =>
    j13  h
  ) else (
    j13  h
  )
set_option maxHeartbeats 4000000 in
set_option maxRecDepth 100000 in
theorem mX12_must (F : Nat) (l : Launch) (g : zG) (B : Nat) (h : HF) (a0 : Nat) (a1 : Int) (ra0 : kt a0 = 15) (ra1 : rng a1) : CTv l g B yX12_must cX12_must 2 2 [.ref (B + a0), .int (ii a1)] h (fX12_must F a0 a1 h) := by
  refine z_enterV (by decide) rfl (Nat.le_of_ble_eq_true rfl) ?_
  intro p e s m args below meth c ls o Q cx hp hl hf hQ
  have hl : lv_has ls 2 [(0, .ref (B + a0)), (1, .int (ii a1))] := hl
  unfold fX12_must at hf
  refine lv_aload_n cx.1 cx.2.1 dX12_must_0 rfl (lv_at hl 0 rfl) ?_
  refine lv_iload_n cx.1 cx.2.1 dX12_must_1 rfl (lv_at hl 1 rfl) ?_
  refine z_ci cx hp (fun o' hx => zrunV (n := 2) (As := [.int (ii a1)]) (rest := []) cx hp (mX12_takes F l g B h a0 a1 ra0 ra1 o' hx) 12 ra0 (by decide) rfl vw_X12_takes ml_X12_227 (by decide) rfl hl.1 rfl (Nat.le_of_ble_eq_true rfl) dX12_must_2) hf (fun r1 h H locs rr1 hp hf => ?_)
  refine z_jn hf (fun j => ∀  (h : HF) (H : Heap) (locs : List Loc) (ls : Array Slot), Hp g B s h H locs → lv_has ls 2 [] → j  h = some o → W p l e (rmn 2) s m args below meth c H locs 0 0 Q (F0 m 13 ls [])) ?_ (fun j13 hj13 hf => ?_)
  · intro  h H locs ls  hp hl hf
    rw [hQ]; exact z_vret cx hp dX12_must_13 hf
  refine z_if_ne cx rr1 (tgt := 13) dX12_must_5 (by decide) hf (fun _ hf => ?_) (fun _ hf => ?_)
  · refine lv_aload_n cx.1 cx.2.1 dX12_must_8 rfl (lv_at hl 0 rfl) ?_
    refine z_iconst cx dX12_must_9 ?_
    refine z_cv cx hp (fun o' hx => zrunV (n := 2) (As := [.int (ii 1)]) (rest := []) cx hp (mX12_wrong F l g B h a0 1 ra0 (by decide) o' hx) 12 ra0 (by decide) rfl vw_X12_wrong ml_X12_230 (by decide) rfl hl.1 rfl (Nat.le_of_ble_eq_true rfl) dX12_must_10) hf (fun _ h H locs hp hf => ?_)
    exact hj13  h _ _ ls  hp (lv_sub hl [] rfl) hf
  · exact hj13  h _ _ ls  hp (lv_sub hl [] rfl) hf
theorem dX12_isVariable_0 : decode cX12_isVariable 0 = .ok (.iload_n 0, 1) := by decide +kernel
theorem dX12_isVariable_1 : decode cX12_isVariable 1 = .ok (.bipush 120, 2) := by decide +kernel
theorem dX12_isVariable_3 : decode cX12_isVariable 3 = .ok (.if_icmp .lt 13, 3) := by decide +kernel
theorem dX12_isVariable_6 : decode cX12_isVariable 6 = .ok (.iload_n 0, 1) := by decide +kernel
theorem dX12_isVariable_7 : decode cX12_isVariable 7 = .ok (.bipush 122, 2) := by decide +kernel
theorem dX12_isVariable_9 : decode cX12_isVariable 9 = .ok (.if_icmp .gt 7, 3) := by decide +kernel
theorem dX12_isVariable_12 : decode cX12_isVariable 12 = .ok (.iconst 1, 1) := by decide +kernel
theorem dX12_isVariable_13 : decode cX12_isVariable 13 = .ok (.goto 4, 3) := by decide +kernel
theorem dX12_isVariable_16 : decode cX12_isVariable 16 = .ok (.iconst 0, 1) := by decide +kernel
theorem dX12_isVariable_17 : decode cX12_isVariable 17 = .ok (.ireturn, 1) := by decide +kernel
def fX12_isVariable (F : Nat) (a0 : Int) (h : HF) : RO :=
  zjn (fun (y17_0 : Int) (h : HF) => (
    zrz y17_0 h
  )) fun j17 =>
  zjn (fun  (h : HF) => (
    j17 0 h
  )) fun j16 =>
  if a0 < 120 then (
    j16  h
  ) else (
    if 122 < a0 then (
      j16  h
    ) else (
      j17 1 h
    )
  )
set_option maxHeartbeats 4000000 in
set_option maxRecDepth 100000 in
theorem mX12_isVariable (F : Nat) (l : Launch) (g : zG) (B : Nat) (h : HF) (a0 : Int) (ra0 : rng a0) : CTi l g B yX12_isVariable cX12_isVariable 1 (some .boolean) 0 [.int (ii a0)] h (fX12_isVariable F a0 h) := by
  refine z_enterI (by decide) rfl (Nat.le_of_ble_eq_true rfl) ?_
  intro p e s m args below meth c ls o Q cx hp hl hf hQ
  have hl : lv_has ls 1 [(0, .int (ii a0))] := hl
  unfold fX12_isVariable at hf
  refine lv_iload_n cx.1 cx.2.1 dX12_isVariable_0 rfl (lv_at hl 0 rfl) ?_
  refine z_bipush cx (by decide) dX12_isVariable_1 ?_
  refine z_jn hf (fun j => ∀ (y17_0 : Int) (h : HF) (H : Heap) (locs : List Loc) (ls : Array Slot), rng y17_0 → Hp g B s h H locs → lv_has ls 1 [] → j y17_0 h = some o → W p l e (rmn 0) s m args below meth c H locs 0 0 Q (F0 m 17 ls [.int (ii y17_0)])) ?_ (fun j17 hj17 hf => ?_)
  · intro y17_0 h H locs ls ry17_0 hp hl hf
    rw [hQ]; exact z_zret cx hp dX12_isVariable_17 hf
  refine z_jn hf (fun j => ∀  (h : HF) (H : Heap) (locs : List Loc) (ls : Array Slot), Hp g B s h H locs → lv_has ls 1 [] → j  h = some o → W p l e (rmn 0) s m args below meth c H locs 0 0 Q (F0 m 16 ls [])) ?_ (fun j16 hj16 hf => ?_)
  · intro  h H locs ls  hp hl hf
    refine z_iconst cx dX12_isVariable_16 ?_
    exact hj17 0 h _ _ ls (by decide) hp (lv_sub hl [] rfl) hf
  refine z_icmp_lt cx ra0 (by decide) (tgt := 16) dX12_isVariable_3 (by decide) hf (fun _ hf => ?_) (fun _ hf => ?_)
  · exact hj16  h _ _ ls  hp (lv_sub hl [] rfl) hf
  · refine lv_iload_n cx.1 cx.2.1 dX12_isVariable_6 rfl (lv_at hl 0 rfl) ?_
    refine z_bipush cx (by decide) dX12_isVariable_7 ?_
    refine z_icmp_gt cx ra0 (by decide) (tgt := 16) dX12_isVariable_9 (by decide) hf (fun _ hf => ?_) (fun _ hf => ?_)
    · exact hj16  h _ _ ls  hp (lv_sub hl [] rfl) hf
    · refine z_iconst cx dX12_isVariable_12 ?_
      refine lv_goto (tgt := 17) cx.1 cx.2.1 dX12_isVariable_13 (by decide) ?_
      exact hj17 1 h _ _ ls (by decide) hp (lv_sub hl [] rfl) hf
theorem dX12_isLetter_0 : decode cX12_isLetter 0 = .ok (.iload_n 0, 1) := by decide +kernel
theorem dX12_isLetter_1 : decode cX12_isLetter 1 = .ok (.bipush 97, 2) := by decide +kernel
theorem dX12_isLetter_3 : decode cX12_isLetter 3 = .ok (.if_icmp .lt 13, 3) := by decide +kernel
theorem dX12_isLetter_6 : decode cX12_isLetter 6 = .ok (.iload_n 0, 1) := by decide +kernel
theorem dX12_isLetter_7 : decode cX12_isLetter 7 = .ok (.bipush 100, 2) := by decide +kernel
theorem dX12_isLetter_9 : decode cX12_isLetter 9 = .ok (.if_icmp .gt 7, 3) := by decide +kernel
theorem dX12_isLetter_12 : decode cX12_isLetter 12 = .ok (.iconst 1, 1) := by decide +kernel
theorem dX12_isLetter_13 : decode cX12_isLetter 13 = .ok (.goto 4, 3) := by decide +kernel
theorem dX12_isLetter_16 : decode cX12_isLetter 16 = .ok (.iconst 0, 1) := by decide +kernel
theorem dX12_isLetter_17 : decode cX12_isLetter 17 = .ok (.ireturn, 1) := by decide +kernel
def fX12_isLetter (F : Nat) (a0 : Int) (h : HF) : RO :=
  zjn (fun (y17_0 : Int) (h : HF) => (
    zrz y17_0 h
  )) fun j17 =>
  zjn (fun  (h : HF) => (
    j17 0 h
  )) fun j16 =>
  if a0 < 97 then (
    j16  h
  ) else (
    if 100 < a0 then (
      j16  h
    ) else (
      j17 1 h
    )
  )
set_option maxHeartbeats 4000000 in
set_option maxRecDepth 100000 in
theorem mX12_isLetter (F : Nat) (l : Launch) (g : zG) (B : Nat) (h : HF) (a0 : Int) (ra0 : rng a0) : CTi l g B yX12_isLetter cX12_isLetter 1 (some .boolean) 0 [.int (ii a0)] h (fX12_isLetter F a0 h) := by
  refine z_enterI (by decide) rfl (Nat.le_of_ble_eq_true rfl) ?_
  intro p e s m args below meth c ls o Q cx hp hl hf hQ
  have hl : lv_has ls 1 [(0, .int (ii a0))] := hl
  unfold fX12_isLetter at hf
  refine lv_iload_n cx.1 cx.2.1 dX12_isLetter_0 rfl (lv_at hl 0 rfl) ?_
  refine z_bipush cx (by decide) dX12_isLetter_1 ?_
  refine z_jn hf (fun j => ∀ (y17_0 : Int) (h : HF) (H : Heap) (locs : List Loc) (ls : Array Slot), rng y17_0 → Hp g B s h H locs → lv_has ls 1 [] → j y17_0 h = some o → W p l e (rmn 0) s m args below meth c H locs 0 0 Q (F0 m 17 ls [.int (ii y17_0)])) ?_ (fun j17 hj17 hf => ?_)
  · intro y17_0 h H locs ls ry17_0 hp hl hf
    rw [hQ]; exact z_zret cx hp dX12_isLetter_17 hf
  refine z_jn hf (fun j => ∀  (h : HF) (H : Heap) (locs : List Loc) (ls : Array Slot), Hp g B s h H locs → lv_has ls 1 [] → j  h = some o → W p l e (rmn 0) s m args below meth c H locs 0 0 Q (F0 m 16 ls [])) ?_ (fun j16 hj16 hf => ?_)
  · intro  h H locs ls  hp hl hf
    refine z_iconst cx dX12_isLetter_16 ?_
    exact hj17 0 h _ _ ls (by decide) hp (lv_sub hl [] rfl) hf
  refine z_icmp_lt cx ra0 (by decide) (tgt := 16) dX12_isLetter_3 (by decide) hf (fun _ hf => ?_) (fun _ hf => ?_)
  · exact hj16  h _ _ ls  hp (lv_sub hl [] rfl) hf
  · refine lv_iload_n cx.1 cx.2.1 dX12_isLetter_6 rfl (lv_at hl 0 rfl) ?_
    refine z_bipush cx (by decide) dX12_isLetter_7 ?_
    refine z_icmp_gt cx ra0 (by decide) (tgt := 16) dX12_isLetter_9 (by decide) hf (fun _ hf => ?_) (fun _ hf => ?_)
    · exact hj16  h _ _ ls  hp (lv_sub hl [] rfl) hf
    · refine z_iconst cx dX12_isLetter_12 ?_
      refine lv_goto (tgt := 17) cx.1 cx.2.1 dX12_isLetter_13 (by decide) ?_
      exact hj17 1 h _ _ ls (by decide) hp (lv_sub hl [] rfl) hf
theorem dX12_term_0 : decode cX12_term 0 = .ok (.aload_n 0, 1) := by decide +kernel
theorem dX12_term_1 : decode cX12_term 1 = .ok (.getfield 218, 3) := by decide +kernel
theorem dX12_term_4 : decode cX12_term 4 = .ok (.ifCond .eq 5, 3) := by decide +kernel
theorem dX12_term_7 : decode cX12_term 7 = .ok (.iconst 0, 1) := by decide +kernel
theorem dX12_term_8 : decode cX12_term 8 = .ok (.ireturn, 1) := by decide +kernel
theorem dX12_term_9 : decode cX12_term 9 = .ok (.aload_n 0, 1) := by decide +kernel
theorem dX12_term_10 : decode cX12_term 10 = .ok (.getfield 215, 3) := by decide +kernel
theorem dX12_term_13 : decode cX12_term 13 = .ok (.invokestatic 232, 3) := by decide +kernel
theorem dX12_term_16 : decode cX12_term 16 = .ok (.ifCond .ne 20, 3) := by decide +kernel
theorem dX12_term_19 : decode cX12_term 19 = .ok (.aload_n 0, 1) := by decide +kernel
theorem dX12_term_20 : decode cX12_term 20 = .ok (.getfield 215, 3) := by decide +kernel
theorem dX12_term_23 : decode cX12_term 23 = .ok (.invokestatic 235, 3) := by decide +kernel
theorem dX12_term_26 : decode cX12_term 26 = .ok (.ifCond .ne 10, 3) := by decide +kernel
theorem dX12_term_29 : decode cX12_term 29 = .ok (.aload_n 0, 1) := by decide +kernel
theorem dX12_term_30 : decode cX12_term 30 = .ok (.iconst 1, 1) := by decide +kernel
theorem dX12_term_31 : decode cX12_term 31 = .ok (.invokevirtual 230, 3) := by decide +kernel
theorem dX12_term_34 : decode cX12_term 34 = .ok (.iconst 0, 1) := by decide +kernel
theorem dX12_term_35 : decode cX12_term 35 = .ok (.ireturn, 1) := by decide +kernel
theorem dX12_term_36 : decode cX12_term 36 = .ok (.iload_n 1, 1) := by decide +kernel
theorem dX12_term_37 : decode cX12_term 37 = .ok (.bipush 8, 2) := by decide +kernel
theorem dX12_term_39 : decode cX12_term 39 = .ok (.if_icmp .ne 10, 3) := by decide +kernel
theorem dX12_term_42 : decode cX12_term 42 = .ok (.aload_n 0, 1) := by decide +kernel
theorem dX12_term_43 : decode cX12_term 43 = .ok (.iconst 3, 1) := by decide +kernel
theorem dX12_term_44 : decode cX12_term 44 = .ok (.invokevirtual 230, 3) := by decide +kernel
theorem dX12_term_47 : decode cX12_term 47 = .ok (.iconst 0, 1) := by decide +kernel
theorem dX12_term_48 : decode cX12_term 48 = .ok (.ireturn, 1) := by decide +kernel
theorem dX12_term_49 : decode cX12_term 49 = .ok (.aload_n 0, 1) := by decide +kernel
theorem dX12_term_50 : decode cX12_term 50 = .ok (.getfield 61, 3) := by decide +kernel
theorem dX12_term_53 : decode cX12_term 53 = .ok (.iconst 4, 1) := by decide +kernel
theorem dX12_term_54 : decode cX12_term 54 = .ok (.iaload, 1) := by decide +kernel
theorem dX12_term_55 : decode cX12_term 55 = .ok (.bipush 80, 2) := by decide +kernel
theorem dX12_term_57 : decode cX12_term 57 = .ok (.if_icmp .ne 10, 3) := by decide +kernel
theorem dX12_term_60 : decode cX12_term 60 = .ok (.aload_n 0, 1) := by decide +kernel
theorem dX12_term_61 : decode cX12_term 61 = .ok (.iconst 4, 1) := by decide +kernel
theorem dX12_term_62 : decode cX12_term 62 = .ok (.invokevirtual 230, 3) := by decide +kernel
theorem dX12_term_65 : decode cX12_term 65 = .ok (.iconst 0, 1) := by decide +kernel
theorem dX12_term_66 : decode cX12_term 66 = .ok (.ireturn, 1) := by decide +kernel
theorem dX12_term_67 : decode cX12_term 67 = .ok (.sipush 320, 3) := by decide +kernel
theorem dX12_term_70 : decode cX12_term 70 = .ok (.aload_n 0, 1) := by decide +kernel
theorem dX12_term_71 : decode cX12_term 71 = .ok (.getfield 61, 3) := by decide +kernel
theorem dX12_term_74 : decode cX12_term 74 = .ok (.iconst 4, 1) := by decide +kernel
theorem dX12_term_75 : decode cX12_term 75 = .ok (.iaload, 1) := by decide +kernel
theorem dX12_term_76 : decode cX12_term 76 = .ok (.iadd, 1) := by decide +kernel
theorem dX12_term_77 : decode cX12_term 77 = .ok (.istore_n 2, 1) := by decide +kernel
theorem dX12_term_78 : decode cX12_term 78 = .ok (.aload_n 0, 1) := by decide +kernel
theorem dX12_term_79 : decode cX12_term 79 = .ok (.getfield 58, 3) := by decide +kernel
theorem dX12_term_82 : decode cX12_term 82 = .ok (.aload_n 0, 1) := by decide +kernel
theorem dX12_term_83 : decode cX12_term 83 = .ok (.getfield 61, 3) := by decide +kernel
theorem dX12_term_86 : decode cX12_term 86 = .ok (.iconst 4, 1) := by decide +kernel
theorem dX12_term_87 : decode cX12_term 87 = .ok (.iaload, 1) := by decide +kernel
theorem dX12_term_88 : decode cX12_term 88 = .ok (.aload_n 0, 1) := by decide +kernel
theorem dX12_term_89 : decode cX12_term 89 = .ok (.getfield 212, 3) := by decide +kernel
theorem dX12_term_92 : decode cX12_term 92 = .ok (.iastore, 1) := by decide +kernel
theorem dX12_term_93 : decode cX12_term 93 = .ok (.aload_n 0, 1) := by decide +kernel
theorem dX12_term_94 : decode cX12_term 94 = .ok (.getfield 61, 3) := by decide +kernel
theorem dX12_term_97 : decode cX12_term 97 = .ok (.iconst 4, 1) := by decide +kernel
theorem dX12_term_98 : decode cX12_term 98 = .ok (.dup2, 1) := by decide +kernel
theorem dX12_term_99 : decode cX12_term 99 = .ok (.iaload, 1) := by decide +kernel
theorem dX12_term_100 : decode cX12_term 100 = .ok (.iconst 1, 1) := by decide +kernel
theorem dX12_term_101 : decode cX12_term 101 = .ok (.iadd, 1) := by decide +kernel
theorem dX12_term_102 : decode cX12_term 102 = .ok (.iastore, 1) := by decide +kernel
theorem dX12_term_103 : decode cX12_term 103 = .ok (.aload_n 0, 1) := by decide +kernel
theorem dX12_term_104 : decode cX12_term 104 = .ok (.getfield 215, 3) := by decide +kernel
theorem dX12_term_107 : decode cX12_term 107 = .ok (.invokestatic 232, 3) := by decide +kernel
theorem dX12_term_110 : decode cX12_term 110 = .ok (.istore_n 3, 1) := by decide +kernel
theorem dX12_term_111 : decode cX12_term 111 = .ok (.aload_n 0, 1) := by decide +kernel
theorem dX12_term_112 : decode cX12_term 112 = .ok (.getfield 46, 3) := by decide +kernel
theorem dX12_term_115 : decode cX12_term 115 = .ok (.iload_n 2, 1) := by decide +kernel
theorem dX12_term_116 : decode cX12_term 116 = .ok (.iload_n 3, 1) := by decide +kernel
theorem dX12_term_117 : decode cX12_term 117 = .ok (.ifCond .eq 13, 3) := by decide +kernel
theorem dX12_term_120 : decode cX12_term 120 = .ok (.aload_n 0, 1) := by decide +kernel
theorem dX12_term_121 : decode cX12_term 121 = .ok (.getfield 215, 3) := by decide +kernel
theorem dX12_term_124 : decode cX12_term 124 = .ok (.bipush 120, 2) := by decide +kernel
theorem dX12_term_126 : decode cX12_term 126 = .ok (.isub, 1) := by decide +kernel
theorem dX12_term_127 : decode cX12_term 127 = .ok (.goto 12, 3) := by decide +kernel
theorem dX12_term_130 : decode cX12_term 130 = .ok (.iconst 3, 1) := by decide +kernel
theorem dX12_term_131 : decode cX12_term 131 = .ok (.aload_n 0, 1) := by decide +kernel
theorem dX12_term_132 : decode cX12_term 132 = .ok (.getfield 215, 3) := by decide +kernel
theorem dX12_term_135 : decode cX12_term 135 = .ok (.iadd, 1) := by decide +kernel
theorem dX12_term_136 : decode cX12_term 136 = .ok (.bipush 97, 2) := by decide +kernel
theorem dX12_term_138 : decode cX12_term 138 = .ok (.isub, 1) := by decide +kernel
theorem dX12_term_139 : decode cX12_term 139 = .ok (.iastore, 1) := by decide +kernel
theorem dX12_term_140 : decode cX12_term 140 = .ok (.aload_n 0, 1) := by decide +kernel
theorem dX12_term_141 : decode cX12_term 141 = .ok (.getfield 49, 3) := by decide +kernel
theorem dX12_term_144 : decode cX12_term 144 = .ok (.iload_n 2, 1) := by decide +kernel
theorem dX12_term_145 : decode cX12_term 145 = .ok (.iconst 0, 1) := by decide +kernel
theorem dX12_term_146 : decode cX12_term 146 = .ok (.iastore, 1) := by decide +kernel
theorem dX12_term_147 : decode cX12_term 147 = .ok (.aload_n 0, 1) := by decide +kernel
theorem dX12_term_148 : decode cX12_term 148 = .ok (.invokevirtual 224, 3) := by decide +kernel
theorem dX12_term_151 : decode cX12_term 151 = .ok (.iload_n 3, 1) := by decide +kernel
theorem dX12_term_152 : decode cX12_term 152 = .ok (.ifCond .ne 67, 3) := by decide +kernel
theorem dX12_term_155 : decode cX12_term 155 = .ok (.aload_n 0, 1) := by decide +kernel
theorem dX12_term_156 : decode cX12_term 156 = .ok (.bipush 40, 2) := by decide +kernel
theorem dX12_term_158 : decode cX12_term 158 = .ok (.invokevirtual 227, 3) := by decide +kernel
theorem dX12_term_161 : decode cX12_term 161 = .ok (.ifCond .eq 58, 3) := by decide +kernel
theorem dX12_term_164 : decode cX12_term 164 = .ok (.aload_n 0, 1) := by decide +kernel
theorem dX12_term_165 : decode cX12_term 165 = .ok (.getfield 52, 3) := by decide +kernel
theorem dX12_term_168 : decode cX12_term 168 = .ok (.iload_n 2, 1) := by decide +kernel
theorem dX12_term_169 : decode cX12_term 169 = .ok (.aload_n 0, 1) := by decide +kernel
theorem dX12_term_170 : decode cX12_term 170 = .ok (.iload_n 1, 1) := by decide +kernel
theorem dX12_term_171 : decode cX12_term 171 = .ok (.iconst 1, 1) := by decide +kernel
theorem dX12_term_172 : decode cX12_term 172 = .ok (.iadd, 1) := by decide +kernel
theorem dX12_term_173 : decode cX12_term 173 = .ok (.invokevirtual 238, 3) := by decide +kernel
theorem dX12_term_176 : decode cX12_term 176 = .ok (.iastore, 1) := by decide +kernel
theorem dX12_term_177 : decode cX12_term 177 = .ok (.aload_n 0, 1) := by decide +kernel
theorem dX12_term_178 : decode cX12_term 178 = .ok (.getfield 49, 3) := by decide +kernel
theorem dX12_term_181 : decode cX12_term 181 = .ok (.iload_n 2, 1) := by decide +kernel
theorem dX12_term_182 : decode cX12_term 182 = .ok (.iconst 1, 1) := by decide +kernel
theorem dX12_term_183 : decode cX12_term 183 = .ok (.iastore, 1) := by decide +kernel
theorem dX12_term_184 : decode cX12_term 184 = .ok (.aload_n 0, 1) := by decide +kernel
theorem dX12_term_185 : decode cX12_term 185 = .ok (.bipush 44, 2) := by decide +kernel
theorem dX12_term_187 : decode cX12_term 187 = .ok (.invokevirtual 227, 3) := by decide +kernel
theorem dX12_term_190 : decode cX12_term 190 = .ok (.ifCond .eq 23, 3) := by decide +kernel
theorem dX12_term_193 : decode cX12_term 193 = .ok (.aload_n 0, 1) := by decide +kernel
theorem dX12_term_194 : decode cX12_term 194 = .ok (.getfield 55, 3) := by decide +kernel
theorem dX12_term_197 : decode cX12_term 197 = .ok (.iload_n 2, 1) := by decide +kernel
theorem dX12_term_198 : decode cX12_term 198 = .ok (.aload_n 0, 1) := by decide +kernel
theorem dX12_term_199 : decode cX12_term 199 = .ok (.iload_n 1, 1) := by decide +kernel
theorem dX12_term_200 : decode cX12_term 200 = .ok (.iconst 1, 1) := by decide +kernel
theorem dX12_term_201 : decode cX12_term 201 = .ok (.iadd, 1) := by decide +kernel
theorem dX12_term_202 : decode cX12_term 202 = .ok (.invokevirtual 238, 3) := by decide +kernel
theorem dX12_term_205 : decode cX12_term 205 = .ok (.iastore, 1) := by decide +kernel
theorem dX12_term_206 : decode cX12_term 206 = .ok (.aload_n 0, 1) := by decide +kernel
theorem dX12_term_207 : decode cX12_term 207 = .ok (.getfield 49, 3) := by decide +kernel
theorem dX12_term_210 : decode cX12_term 210 = .ok (.iload_n 2, 1) := by decide +kernel
theorem dX12_term_211 : decode cX12_term 211 = .ok (.iconst 2, 1) := by decide +kernel
theorem dX12_term_212 : decode cX12_term 212 = .ok (.iastore, 1) := by decide +kernel
theorem dX12_term_213 : decode cX12_term 213 = .ok (.aload_n 0, 1) := by decide +kernel
theorem dX12_term_214 : decode cX12_term 214 = .ok (.bipush 41, 2) := by decide +kernel
theorem dX12_term_216 : decode cX12_term 216 = .ok (.invokevirtual 241, 3) := by decide +kernel
theorem dX12_term_219 : decode cX12_term 219 = .ok (.iload_n 2, 1) := by decide +kernel
theorem dX12_term_220 : decode cX12_term 220 = .ok (.sipush 320, 3) := by decide +kernel
theorem dX12_term_223 : decode cX12_term 223 = .ok (.isub, 1) := by decide +kernel
theorem dX12_term_224 : decode cX12_term 224 = .ok (.ireturn, 1) := by decide +kernel
def fX12_term (F : Nat) : Nat → Nat → Int → HF → RO
  | 0, _, _, _ => none
  | D + 1, a0, a1, h =>
    zgf h a0 35 fun x1 =>
    if x1 = 0 then (
      zgf h a0 33 fun x2 =>
      zbd (fX12_isVariable F x2 h) fun r3 h =>
      zjn (fun  (h : HF) => (
        if a1 = 8 then (
          zbd (fX12_wrong F a0 3 h) fun _ h =>
          some (0, h)
        ) else (
          zrd h (a0 + 18) 4 fun x5 =>
          if x5 = 80 then (
            zbd (fX12_wrong F a0 4 h) fun _ h =>
            some (0, h)
          ) else (
            zrd h (a0 + 18) 4 fun x7 =>
            zlet (wr (320 + x7)) fun x8 =>
            zrd h (a0 + 18) 4 fun x9 =>
            zgf h a0 34 fun x10 =>
            zwr h (a0 + 17) x9 x10 fun h =>
            zrd h (a0 + 18) 4 fun x11 =>
            zwr h (a0 + 18) 4 (wr (x11 + 1)) fun h =>
            zgf h a0 33 fun x12 =>
            zbd (fX12_isVariable F x12 h) fun r13 h =>
            zjn (fun (x139_2 : Int) (x139_3 : Int) (y139_0 : Int) (y139_1 : Int) (y139_2 : Nat) (h : HF) => (
              zwr h y139_2 y139_1 y139_0 fun h =>
              zwr h (a0 + 14) x139_2 0 fun h =>
              zbd (fX12_nextSign F a0 h) fun _ h =>
              zjn (fun (x219_2 : Int) (h : HF) => (
                some (wr (x219_2 - 320), h)
              )) fun j219 =>
              if x139_3 = 0 then (
                zbd (fX12_takes F a0 40 h) fun r15 h =>
                if r15 = 0 then (
                  j219 x139_2 h
                ) else (
                  zbd ((fX12_term F D) a0 (wr (a1 + 1)) h) fun r16 h =>
                  zwr h (a0 + 15) x139_2 r16 fun h =>
                  zwr h (a0 + 14) x139_2 1 fun h =>
                  zbd (fX12_takes F a0 44 h) fun r17 h =>
                  zjn (fun (x213_2 : Int) (h : HF) => (
                    zbd (fX12_must F a0 41 h) fun _ h =>
                    j219 x213_2 h
                  )) fun j213 =>
                  if r17 = 0 then (
                    j213 x139_2 h
                  ) else (
                    zbd ((fX12_term F D) a0 (wr (a1 + 1)) h) fun r19 h =>
                    zwr h (a0 + 16) x139_2 r19 fun h =>
                    zwr h (a0 + 14) x139_2 2 fun h =>
                    j213 x139_2 h
                  )
                )
              ) else (
                j219 x139_2 h
              )
            )) fun j139 =>
            if r13 = 0 then (
              zgf h a0 33 fun x20 =>
              j139 x8 r13 (wr ((wr (3 + x20)) - 97)) x8 (a0 + 13) h
            ) else (
              zgf h a0 33 fun x21 =>
              j139 x8 r13 (wr (x21 - 120)) x8 (a0 + 13) h
            )
          )
        )
      )) fun j36 =>
      if r3 = 0 then (
        zgf h a0 33 fun x22 =>
        zbd (fX12_isLetter F x22 h) fun r23 h =>
        if r23 = 0 then (
          zbd (fX12_wrong F a0 1 h) fun _ h =>
          some (0, h)
        ) else (
          j36  h
        )
      ) else (
        j36  h
      )
    ) else (
      some (0, h)
    )
set_option maxHeartbeats 4000000 in
set_option maxRecDepth 100000 in
theorem mX12_term (F : Nat) (l : Launch) (g : zG) (B : Nat) : ∀ (D : Nat) (h : HF) (a0 : Nat) (a1 : Int) (ra0 : kt a0 = 15) (ra1 : rng a1), CTi l g B yX12_term cX12_term 4 (some .int) (3 + 1 * D) [.ref (B + a0), .int (ii a1)] h (fX12_term F D a0 a1 h) := by
  intro D
  induction D with
  | zero =>
    intro h a0 a1 ra0 ra1 o hx
    cases hx
  | succ D ihD =>
    intro h a0 a1 ra0 ra1
    refine z_enterI (by decide) rfl (Nat.le_of_ble_eq_true rfl) ?_
    intro p e s m args below meth c ls o Q cx hp hl hf hQ
    have hl : lv_has ls 4 [(0, .ref (B + a0)), (1, .int (ii a1))] := hl
    rw [fX12_term] at hf
    refine lv_aload_n cx.1 cx.2.1 dX12_term_0 rfl (lv_at hl 0 rfl) ?_
    refine z_geti cx hp (T := TX12) 12 35 rfl zin_12 (by decide) (by decide) ra0 rfl fl_X12_218 dX12_term_1 hf (fun x1 rx1 hf => ?_)
    refine z_if_eq cx rx1 (tgt := 9) dX12_term_4 (by decide) hf (fun _ hf => ?_) (fun _ hf => ?_)
    · refine lv_aload_n cx.1 cx.2.1 dX12_term_9 rfl (lv_at hl 0 rfl) ?_
      refine z_geti cx hp (T := TX12) 12 33 rfl zin_12 (by decide) (by decide) ra0 rfl fl_X12_215 dX12_term_10 hf (fun x2 rx2 hf => ?_)
      refine z_ci cx hp (fun o' hx => zrunS (n := (3 + 1 * (D + 1))) (As := [.int (ii x2)]) (rest := []) cx hp (mX12_isVariable F l g B h x2 rx2 o' hx) sw_X12_isVariable ml_X12_232 (by omega) rfl hl.1 rfl (Nat.le_of_ble_eq_true rfl) dX12_term_13) hf (fun r3 h H locs rr3 hp hf => ?_)
      refine z_jn hf (fun j => ∀  (h : HF) (H : Heap) (locs : List Loc) (ls : Array Slot), Hp g B s h H locs → lv_has ls 4 [(0, .ref (B + a0)), (1, .int (ii a1))] → j  h = some o → W p l e (rmn (3 + 1 * (D + 1))) s m args below meth c H locs 0 0 Q (F0 m 36 ls [])) ?_ (fun j36 hj36 hf => ?_)
      · intro  h H locs ls  hp hl hf
        refine lv_iload_n cx.1 cx.2.1 dX12_term_36 rfl (lv_at hl 1 rfl) ?_
        refine z_bipush cx (by decide) dX12_term_37 ?_
        refine z_icmp_ne cx ra1 (by decide) (tgt := 49) dX12_term_39 (by decide) hf (fun _ hf => ?_) (fun _ hf => ?_)
        · refine lv_aload_n cx.1 cx.2.1 dX12_term_42 rfl (lv_at hl 0 rfl) ?_
          refine z_iconst cx dX12_term_43 ?_
          refine z_cv cx hp (fun o' hx => zrunV (n := (3 + 1 * (D + 1))) (As := [.int (ii 3)]) (rest := []) cx hp (mX12_wrong F l g B h a0 3 ra0 (by decide) o' hx) 12 ra0 (by decide) rfl vw_X12_wrong ml_X12_230 (by omega) rfl hl.1 rfl (Nat.le_of_ble_eq_true rfl) dX12_term_44) hf (fun _ h H locs hp hf => ?_)
          refine z_iconst cx dX12_term_47 ?_
          rw [hQ]; exact z_iret cx hp (by decide) dX12_term_48 hf
        · refine lv_aload_n cx.1 cx.2.1 dX12_term_49 rfl (lv_at hl 0 rfl) ?_
          refine z_gets cx hp (T := TX12) 12 24 (a0 + 18) rfl zin_12 (by decide) (by decide) ra0 rfl fl_X12_61 dX12_term_50 ?_
          refine z_iconst cx dX12_term_53 ?_
          refine z_iald cx hp (zs_12_24 a0 (kt_lt ra0 (by decide)) ra0) (by decide) dX12_term_54 hf (fun x5 rx5 hf => ?_)
          refine z_bipush cx (by decide) dX12_term_55 ?_
          refine z_icmp_ne cx rx5 (by decide) (tgt := 67) dX12_term_57 (by decide) hf (fun _ hf => ?_) (fun _ hf => ?_)
          · refine lv_aload_n cx.1 cx.2.1 dX12_term_60 rfl (lv_at hl 0 rfl) ?_
            refine z_iconst cx dX12_term_61 ?_
            refine z_cv cx hp (fun o' hx => zrunV (n := (3 + 1 * (D + 1))) (As := [.int (ii 4)]) (rest := []) cx hp (mX12_wrong F l g B h a0 4 ra0 (by decide) o' hx) 12 ra0 (by decide) rfl vw_X12_wrong ml_X12_230 (by omega) rfl hl.1 rfl (Nat.le_of_ble_eq_true rfl) dX12_term_62) hf (fun _ h H locs hp hf => ?_)
            refine z_iconst cx dX12_term_65 ?_
            rw [hQ]; exact z_iret cx hp (by decide) dX12_term_66 hf
          · refine z_sipush cx (by decide) dX12_term_67 ?_
            refine lv_aload_n cx.1 cx.2.1 dX12_term_70 rfl (lv_at hl 0 rfl) ?_
            refine z_gets cx hp (T := TX12) 12 24 (a0 + 18) rfl zin_12 (by decide) (by decide) ra0 rfl fl_X12_61 dX12_term_71 ?_
            refine z_iconst cx dX12_term_74 ?_
            refine z_iald cx hp (zs_12_24 a0 (kt_lt ra0 (by decide)) ra0) (by decide) dX12_term_75 hf (fun x7 rx7 hf => ?_)
            refine z_iadd cx dX12_term_76 ?_
            refine z_let (rng_wr _) hf (fun x8 rx8 hf => ?_)
            refine lv_istore_n (lv' := [(2, .int (ii x8)), (0, .ref (B + a0)), (1, .int (ii a1))]) cx.1 cx.2.1 dX12_term_77 rfl hl (by decide) rfl (fun ls hl => ?_)
            refine lv_aload_n cx.1 cx.2.1 dX12_term_78 rfl (lv_at hl 1 rfl) ?_
            refine z_gets cx hp (T := TX12) 12 23 (a0 + 17) rfl zin_12 (by decide) (by decide) ra0 rfl fl_X12_58 dX12_term_79 ?_
            refine lv_aload_n cx.1 cx.2.1 dX12_term_82 rfl (lv_at hl 1 rfl) ?_
            refine z_gets cx hp (T := TX12) 12 24 (a0 + 18) rfl zin_12 (by decide) (by decide) ra0 rfl fl_X12_61 dX12_term_83 ?_
            refine z_iconst cx dX12_term_86 ?_
            refine z_iald cx hp (zs_12_24 a0 (kt_lt ra0 (by decide)) ra0) (by decide) dX12_term_87 hf (fun x9 rx9 hf => ?_)
            refine lv_aload_n cx.1 cx.2.1 dX12_term_88 rfl (lv_at hl 1 rfl) ?_
            refine z_geti cx hp (T := TX12) 12 34 rfl zin_12 (by decide) (by decide) ra0 rfl fl_X12_212 dX12_term_89 hf (fun x10 rx10 hf => ?_)
            refine z_iast cx hp (zs_12_23 a0 (kt_lt ra0 (by decide)) ra0) rx9 rx10 dX12_term_92 hf (fun h H locs hp hf => ?_)
            refine lv_aload_n cx.1 cx.2.1 dX12_term_93 rfl (lv_at hl 1 rfl) ?_
            refine z_gets cx hp (T := TX12) 12 24 (a0 + 18) rfl zin_12 (by decide) (by decide) ra0 rfl fl_X12_61 dX12_term_94 ?_
            refine z_iconst cx dX12_term_97 ?_
            refine lv_dup2_11 cx.1 cx.2.1 dX12_term_98 rfl rfl ?_
            refine z_iald cx hp (zs_12_24 a0 (kt_lt ra0 (by decide)) ra0) (by decide) dX12_term_99 hf (fun x11 rx11 hf => ?_)
            refine z_iconst cx dX12_term_100 ?_
            refine z_iadd cx dX12_term_101 ?_
            refine z_iast cx hp (zs_12_24 a0 (kt_lt ra0 (by decide)) ra0) (by decide) (rng_wr _) dX12_term_102 hf (fun h H locs hp hf => ?_)
            refine lv_aload_n cx.1 cx.2.1 dX12_term_103 rfl (lv_at hl 1 rfl) ?_
            refine z_geti cx hp (T := TX12) 12 33 rfl zin_12 (by decide) (by decide) ra0 rfl fl_X12_215 dX12_term_104 hf (fun x12 rx12 hf => ?_)
            refine z_ci cx hp (fun o' hx => zrunS (n := (3 + 1 * (D + 1))) (As := [.int (ii x12)]) (rest := []) cx hp (mX12_isVariable F l g B h x12 rx12 o' hx) sw_X12_isVariable ml_X12_232 (by omega) rfl hl.1 rfl (Nat.le_of_ble_eq_true rfl) dX12_term_107) hf (fun r13 h H locs rr13 hp hf => ?_)
            refine lv_istore_n (lv' := [(3, .int (ii r13)), (2, .int (ii x8)), (0, .ref (B + a0)), (1, .int (ii a1))]) cx.1 cx.2.1 dX12_term_110 rfl hl (by decide) rfl (fun ls hl => ?_)
            refine lv_aload_n cx.1 cx.2.1 dX12_term_111 rfl (lv_at hl 2 rfl) ?_
            refine z_gets cx hp (T := TX12) 12 19 (a0 + 13) rfl zin_12 (by decide) (by decide) ra0 rfl fl_X12_46 dX12_term_112 ?_
            refine lv_iload_n cx.1 cx.2.1 dX12_term_115 rfl (lv_at hl 1 rfl) ?_
            refine lv_iload_n cx.1 cx.2.1 dX12_term_116 rfl (lv_at hl 0 rfl) ?_
            refine z_jn hf (fun j => ∀ (x139_2 : Int) (x139_3 : Int) (y139_0 : Int) (y139_1 : Int) (y139_2 : Nat) (h : HF) (H : Heap) (locs : List Loc) (ls : Array Slot), rng x139_2 → rng x139_3 → rng y139_0 → rng y139_1 → kt y139_2 = 0 → Hp g B s h H locs → lv_has ls 4 [(0, .ref (B + a0)), (1, .int (ii a1)), (2, .int (ii x139_2)), (3, .int (ii x139_3))] → j x139_2 x139_3 y139_0 y139_1 y139_2 h = some o → W p l e (rmn (3 + 1 * (D + 1))) s m args below meth c H locs 0 0 Q (F0 m 139 ls [.int (ii y139_0), .int (ii y139_1), .ref (B + y139_2)])) ?_ (fun j139 hj139 hf => ?_)
            · intro x139_2 x139_3 y139_0 y139_1 y139_2 h H locs ls rx139_2 rx139_3 ry139_0 ry139_1 ry139_2 hp hl hf
              refine z_iast cx hp ry139_2 ry139_1 ry139_0 dX12_term_139 hf (fun h H locs hp hf => ?_)
              refine lv_aload_n cx.1 cx.2.1 dX12_term_140 rfl (lv_at hl 0 rfl) ?_
              refine z_gets cx hp (T := TX12) 12 20 (a0 + 14) rfl zin_12 (by decide) (by decide) ra0 rfl fl_X12_49 dX12_term_141 ?_
              refine lv_iload_n cx.1 cx.2.1 dX12_term_144 rfl (lv_at hl 2 rfl) ?_
              refine z_iconst cx dX12_term_145 ?_
              refine z_iast cx hp (zs_12_20 a0 (kt_lt ra0 (by decide)) ra0) rx139_2 (by decide) dX12_term_146 hf (fun h H locs hp hf => ?_)
              refine lv_aload_n cx.1 cx.2.1 dX12_term_147 rfl (lv_at hl 0 rfl) ?_
              refine z_cv cx hp (fun o' hx => zrunV (n := (3 + 1 * (D + 1))) (As := []) (rest := []) cx hp (mX12_nextSign F l g B h a0 ra0 o' hx) 12 ra0 (by decide) rfl vw_X12_nextSign ml_X12_224 (by omega) rfl hl.1 rfl (Nat.le_of_ble_eq_true rfl) dX12_term_148) hf (fun _ h H locs hp hf => ?_)
              refine lv_iload_n cx.1 cx.2.1 dX12_term_151 rfl (lv_at hl 3 rfl) ?_
              refine z_jn hf (fun j => ∀ (x219_2 : Int) (h : HF) (H : Heap) (locs : List Loc) (ls : Array Slot), rng x219_2 → Hp g B s h H locs → lv_has ls 4 [(2, .int (ii x219_2))] → j x219_2 h = some o → W p l e (rmn (3 + 1 * (D + 1))) s m args below meth c H locs 0 0 Q (F0 m 219 ls [])) ?_ (fun j219 hj219 hf => ?_)
              · intro x219_2 h H locs ls rx219_2 hp hl hf
                refine lv_iload_n cx.1 cx.2.1 dX12_term_219 rfl (lv_at hl 0 rfl) ?_
                refine z_sipush cx (by decide) dX12_term_220 ?_
                refine z_isub cx dX12_term_223 ?_
                rw [hQ]; exact z_iret cx hp (rng_wr _) dX12_term_224 hf
              refine z_if_ne cx rx139_3 (tgt := 219) dX12_term_152 (by decide) hf (fun _ hf => ?_) (fun _ hf => ?_)
              · refine lv_aload_n cx.1 cx.2.1 dX12_term_155 rfl (lv_at hl 0 rfl) ?_
                refine z_bipush cx (by decide) dX12_term_156 ?_
                refine z_ci cx hp (fun o' hx => zrunV (n := (3 + 1 * (D + 1))) (As := [.int (ii 40)]) (rest := []) cx hp (mX12_takes F l g B h a0 40 ra0 (by decide) o' hx) 12 ra0 (by decide) rfl vw_X12_takes ml_X12_227 (by omega) rfl hl.1 rfl (Nat.le_of_ble_eq_true rfl) dX12_term_158) hf (fun r15 h H locs rr15 hp hf => ?_)
                refine z_if_eq cx rr15 (tgt := 219) dX12_term_161 (by decide) hf (fun _ hf => ?_) (fun _ hf => ?_)
                · exact hj219 x139_2 h _ _ ls rx139_2 hp (lv_sub hl [2] rfl) hf
                · refine lv_aload_n cx.1 cx.2.1 dX12_term_164 rfl (lv_at hl 0 rfl) ?_
                  refine z_gets cx hp (T := TX12) 12 21 (a0 + 15) rfl zin_12 (by decide) (by decide) ra0 rfl fl_X12_52 dX12_term_165 ?_
                  refine lv_iload_n cx.1 cx.2.1 dX12_term_168 rfl (lv_at hl 2 rfl) ?_
                  refine lv_aload_n cx.1 cx.2.1 dX12_term_169 rfl (lv_at hl 0 rfl) ?_
                  refine lv_iload_n cx.1 cx.2.1 dX12_term_170 rfl (lv_at hl 1 rfl) ?_
                  refine z_iconst cx dX12_term_171 ?_
                  refine z_iadd cx dX12_term_172 ?_
                  refine z_ci cx hp (fun o' hx => zrunV (n := (3 + 1 * (D + 1))) (As := [.int (ii (wr (a1 + 1)))]) (rest := [.int (ii x139_2), .ref (B + (a0 + 15))]) cx hp (ihD h a0 (wr (a1 + 1)) ra0 (rng_wr _) o' hx) 12 ra0 (by decide) rfl vw_X12_term ml_X12_238 (by omega) rfl hl.1 rfl (Nat.le_of_ble_eq_true rfl) dX12_term_173) hf (fun r16 h H locs rr16 hp hf => ?_)
                  refine z_iast cx hp (zs_12_21 a0 (kt_lt ra0 (by decide)) ra0) rx139_2 rr16 dX12_term_176 hf (fun h H locs hp hf => ?_)
                  refine lv_aload_n cx.1 cx.2.1 dX12_term_177 rfl (lv_at hl 0 rfl) ?_
                  refine z_gets cx hp (T := TX12) 12 20 (a0 + 14) rfl zin_12 (by decide) (by decide) ra0 rfl fl_X12_49 dX12_term_178 ?_
                  refine lv_iload_n cx.1 cx.2.1 dX12_term_181 rfl (lv_at hl 2 rfl) ?_
                  refine z_iconst cx dX12_term_182 ?_
                  refine z_iast cx hp (zs_12_20 a0 (kt_lt ra0 (by decide)) ra0) rx139_2 (by decide) dX12_term_183 hf (fun h H locs hp hf => ?_)
                  refine lv_aload_n cx.1 cx.2.1 dX12_term_184 rfl (lv_at hl 0 rfl) ?_
                  refine z_bipush cx (by decide) dX12_term_185 ?_
                  refine z_ci cx hp (fun o' hx => zrunV (n := (3 + 1 * (D + 1))) (As := [.int (ii 44)]) (rest := []) cx hp (mX12_takes F l g B h a0 44 ra0 (by decide) o' hx) 12 ra0 (by decide) rfl vw_X12_takes ml_X12_227 (by omega) rfl hl.1 rfl (Nat.le_of_ble_eq_true rfl) dX12_term_187) hf (fun r17 h H locs rr17 hp hf => ?_)
                  refine z_jn hf (fun j => ∀ (x213_2 : Int) (h : HF) (H : Heap) (locs : List Loc) (ls : Array Slot), rng x213_2 → Hp g B s h H locs → lv_has ls 4 [(0, .ref (B + a0)), (2, .int (ii x213_2))] → j x213_2 h = some o → W p l e (rmn (3 + 1 * (D + 1))) s m args below meth c H locs 0 0 Q (F0 m 213 ls [])) ?_ (fun j213 hj213 hf => ?_)
                  · intro x213_2 h H locs ls rx213_2 hp hl hf
                    refine lv_aload_n cx.1 cx.2.1 dX12_term_213 rfl (lv_at hl 0 rfl) ?_
                    refine z_bipush cx (by decide) dX12_term_214 ?_
                    refine z_cv cx hp (fun o' hx => zrunV (n := (3 + 1 * (D + 1))) (As := [.int (ii 41)]) (rest := []) cx hp (mX12_must F l g B h a0 41 ra0 (by decide) o' hx) 12 ra0 (by decide) rfl vw_X12_must ml_X12_241 (by omega) rfl hl.1 rfl (Nat.le_of_ble_eq_true rfl) dX12_term_216) hf (fun _ h H locs hp hf => ?_)
                    exact hj219 x213_2 h _ _ ls rx213_2 hp (lv_sub hl [1] rfl) hf
                  refine z_if_eq cx rr17 (tgt := 213) dX12_term_190 (by decide) hf (fun _ hf => ?_) (fun _ hf => ?_)
                  · exact hj213 x139_2 h _ _ ls rx139_2 hp (lv_sub hl [0, 2] rfl) hf
                  · refine lv_aload_n cx.1 cx.2.1 dX12_term_193 rfl (lv_at hl 0 rfl) ?_
                    refine z_gets cx hp (T := TX12) 12 22 (a0 + 16) rfl zin_12 (by decide) (by decide) ra0 rfl fl_X12_55 dX12_term_194 ?_
                    refine lv_iload_n cx.1 cx.2.1 dX12_term_197 rfl (lv_at hl 2 rfl) ?_
                    refine lv_aload_n cx.1 cx.2.1 dX12_term_198 rfl (lv_at hl 0 rfl) ?_
                    refine lv_iload_n cx.1 cx.2.1 dX12_term_199 rfl (lv_at hl 1 rfl) ?_
                    refine z_iconst cx dX12_term_200 ?_
                    refine z_iadd cx dX12_term_201 ?_
                    refine z_ci cx hp (fun o' hx => zrunV (n := (3 + 1 * (D + 1))) (As := [.int (ii (wr (a1 + 1)))]) (rest := [.int (ii x139_2), .ref (B + (a0 + 16))]) cx hp (ihD h a0 (wr (a1 + 1)) ra0 (rng_wr _) o' hx) 12 ra0 (by decide) rfl vw_X12_term ml_X12_238 (by omega) rfl hl.1 rfl (Nat.le_of_ble_eq_true rfl) dX12_term_202) hf (fun r19 h H locs rr19 hp hf => ?_)
                    refine z_iast cx hp (zs_12_22 a0 (kt_lt ra0 (by decide)) ra0) rx139_2 rr19 dX12_term_205 hf (fun h H locs hp hf => ?_)
                    refine lv_aload_n cx.1 cx.2.1 dX12_term_206 rfl (lv_at hl 0 rfl) ?_
                    refine z_gets cx hp (T := TX12) 12 20 (a0 + 14) rfl zin_12 (by decide) (by decide) ra0 rfl fl_X12_49 dX12_term_207 ?_
                    refine lv_iload_n cx.1 cx.2.1 dX12_term_210 rfl (lv_at hl 2 rfl) ?_
                    refine z_iconst cx dX12_term_211 ?_
                    refine z_iast cx hp (zs_12_20 a0 (kt_lt ra0 (by decide)) ra0) rx139_2 (by decide) dX12_term_212 hf (fun h H locs hp hf => ?_)
                    exact hj213 x139_2 h _ _ ls rx139_2 hp (lv_sub hl [0, 2] rfl) hf
              · exact hj219 x139_2 h _ _ ls rx139_2 hp (lv_sub hl [2] rfl) hf
            refine z_if_eq cx rr13 (tgt := 130) dX12_term_117 (by decide) hf (fun _ hf => ?_) (fun _ hf => ?_)
            · refine z_iconst cx dX12_term_130 ?_
              refine lv_aload_n cx.1 cx.2.1 dX12_term_131 rfl (lv_at hl 2 rfl) ?_
              refine z_geti cx hp (T := TX12) 12 33 rfl zin_12 (by decide) (by decide) ra0 rfl fl_X12_215 dX12_term_132 hf (fun x20 rx20 hf => ?_)
              refine z_iadd cx dX12_term_135 ?_
              refine z_bipush cx (by decide) dX12_term_136 ?_
              refine z_isub cx dX12_term_138 ?_
              exact hj139 x8 r13 (wr ((wr (3 + x20)) - 97)) x8 (a0 + 13) h _ _ ls rx8 rr13 (rng_wr _) rx8 (zs_12_19 a0 (kt_lt ra0 (by decide)) ra0) hp (lv_sub hl [2, 3, 1, 0] rfl) hf
            · refine lv_aload_n cx.1 cx.2.1 dX12_term_120 rfl (lv_at hl 2 rfl) ?_
              refine z_geti cx hp (T := TX12) 12 33 rfl zin_12 (by decide) (by decide) ra0 rfl fl_X12_215 dX12_term_121 hf (fun x21 rx21 hf => ?_)
              refine z_bipush cx (by decide) dX12_term_124 ?_
              refine z_isub cx dX12_term_126 ?_
              refine lv_goto (tgt := 139) cx.1 cx.2.1 dX12_term_127 (by decide) ?_
              exact hj139 x8 r13 (wr (x21 - 120)) x8 (a0 + 13) h _ _ ls rx8 rr13 (rng_wr _) rx8 (zs_12_19 a0 (kt_lt ra0 (by decide)) ra0) hp (lv_sub hl [2, 3, 1, 0] rfl) hf
      refine z_if_ne cx rr3 (tgt := 36) dX12_term_16 (by decide) hf (fun _ hf => ?_) (fun _ hf => ?_)
      · refine lv_aload_n cx.1 cx.2.1 dX12_term_19 rfl (lv_at hl 0 rfl) ?_
        refine z_geti cx hp (T := TX12) 12 33 rfl zin_12 (by decide) (by decide) ra0 rfl fl_X12_215 dX12_term_20 hf (fun x22 rx22 hf => ?_)
        refine z_ci cx hp (fun o' hx => zrunS (n := (3 + 1 * (D + 1))) (As := [.int (ii x22)]) (rest := []) cx hp (mX12_isLetter F l g B h x22 rx22 o' hx) sw_X12_isLetter ml_X12_235 (by omega) rfl hl.1 rfl (Nat.le_of_ble_eq_true rfl) dX12_term_23) hf (fun r23 h H locs rr23 hp hf => ?_)
        refine z_if_ne cx rr23 (tgt := 36) dX12_term_26 (by decide) hf (fun _ hf => ?_) (fun _ hf => ?_)
        · refine lv_aload_n cx.1 cx.2.1 dX12_term_29 rfl (lv_at hl 0 rfl) ?_
          refine z_iconst cx dX12_term_30 ?_
          refine z_cv cx hp (fun o' hx => zrunV (n := (3 + 1 * (D + 1))) (As := [.int (ii 1)]) (rest := []) cx hp (mX12_wrong F l g B h a0 1 ra0 (by decide) o' hx) 12 ra0 (by decide) rfl vw_X12_wrong ml_X12_230 (by omega) rfl hl.1 rfl (Nat.le_of_ble_eq_true rfl) dX12_term_31) hf (fun _ h H locs hp hf => ?_)
          refine z_iconst cx dX12_term_34 ?_
          rw [hQ]; exact z_iret cx hp (by decide) dX12_term_35 hf
        · exact hj36  h _ _ ls  hp (lv_sub hl [0, 1] rfl) hf
      · exact hj36  h _ _ ls  hp (lv_sub hl [0, 1] rfl) hf
    · refine z_iconst cx dX12_term_7 ?_
      rw [hQ]; exact z_iret cx hp (by decide) dX12_term_8 hf
theorem dX12_same_0 : decode cX12_same 0 = .ok (.sipush 160, 3) := by decide +kernel
theorem dX12_same_3 : decode cX12_same 3 = .ok (.aload_n 0, 1) := by decide +kernel
theorem dX12_same_4 : decode cX12_same 4 = .ok (.getfield 70, 3) := by decide +kernel
theorem dX12_same_7 : decode cX12_same 7 = .ok (.iconst 4, 1) := by decide +kernel
theorem dX12_same_8 : decode cX12_same 8 = .ok (.iaload, 1) := by decide +kernel
theorem dX12_same_9 : decode cX12_same 9 = .ok (.iadd, 1) := by decide +kernel
theorem dX12_same_10 : decode cX12_same 10 = .ok (.istore_n 1, 1) := by decide +kernel
theorem dX12_same_11 : decode cX12_same 11 = .ok (.aload_n 0, 1) := by decide +kernel
theorem dX12_same_12 : decode cX12_same 12 = .ok (.iconst 0, 1) := by decide +kernel
theorem dX12_same_13 : decode cX12_same 13 = .ok (.invokevirtual 238, 3) := by decide +kernel
theorem dX12_same_16 : decode cX12_same 16 = .ok (.istore_n 2, 1) := by decide +kernel
theorem dX12_same_17 : decode cX12_same 17 = .ok (.aload_n 0, 1) := by decide +kernel
theorem dX12_same_18 : decode cX12_same 18 = .ok (.bipush 61, 2) := by decide +kernel
theorem dX12_same_20 : decode cX12_same 20 = .ok (.invokevirtual 241, 3) := by decide +kernel
theorem dX12_same_23 : decode cX12_same 23 = .ok (.aload_n 0, 1) := by decide +kernel
theorem dX12_same_24 : decode cX12_same 24 = .ok (.iconst 0, 1) := by decide +kernel
theorem dX12_same_25 : decode cX12_same 25 = .ok (.invokevirtual 238, 3) := by decide +kernel
theorem dX12_same_28 : decode cX12_same 28 = .ok (.istore_n 3, 1) := by decide +kernel
theorem dX12_same_29 : decode cX12_same 29 = .ok (.aload_n 0, 1) := by decide +kernel
theorem dX12_same_30 : decode cX12_same 30 = .ok (.getfield 218, 3) := by decide +kernel
theorem dX12_same_33 : decode cX12_same 33 = .ok (.ifCond .ne 27, 3) := by decide +kernel
theorem dX12_same_36 : decode cX12_same 36 = .ok (.aload_n 0, 1) := by decide +kernel
theorem dX12_same_37 : decode cX12_same 37 = .ok (.getfield 64, 3) := by decide +kernel
theorem dX12_same_40 : decode cX12_same 40 = .ok (.iload_n 1, 1) := by decide +kernel
theorem dX12_same_41 : decode cX12_same 41 = .ok (.iload_n 2, 1) := by decide +kernel
theorem dX12_same_42 : decode cX12_same 42 = .ok (.iastore, 1) := by decide +kernel
theorem dX12_same_43 : decode cX12_same 43 = .ok (.aload_n 0, 1) := by decide +kernel
theorem dX12_same_44 : decode cX12_same 44 = .ok (.getfield 67, 3) := by decide +kernel
theorem dX12_same_47 : decode cX12_same 47 = .ok (.iload_n 1, 1) := by decide +kernel
theorem dX12_same_48 : decode cX12_same 48 = .ok (.iload_n 3, 1) := by decide +kernel
theorem dX12_same_49 : decode cX12_same 49 = .ok (.iastore, 1) := by decide +kernel
theorem dX12_same_50 : decode cX12_same 50 = .ok (.aload_n 0, 1) := by decide +kernel
theorem dX12_same_51 : decode cX12_same 51 = .ok (.getfield 70, 3) := by decide +kernel
theorem dX12_same_54 : decode cX12_same 54 = .ok (.iconst 4, 1) := by decide +kernel
theorem dX12_same_55 : decode cX12_same 55 = .ok (.dup2, 1) := by decide +kernel
theorem dX12_same_56 : decode cX12_same 56 = .ok (.iaload, 1) := by decide +kernel
theorem dX12_same_57 : decode cX12_same 57 = .ok (.iconst 1, 1) := by decide +kernel
theorem dX12_same_58 : decode cX12_same 58 = .ok (.iadd, 1) := by decide +kernel
theorem dX12_same_59 : decode cX12_same 59 = .ok (.iastore, 1) := by decide +kernel
theorem dX12_same_60 : decode cX12_same 60 = .ok (.return_, 1) := by decide +kernel
def fX12_same (F : Nat) (a0 : Nat) (h : HF) : RO :=
  zrd h (a0 + 21) 4 fun x1 =>
  zlet (wr (160 + x1)) fun x2 =>
  zbd (fX12_term F 10 a0 0 h) fun r3 h =>
  zbd (fX12_must F a0 61 h) fun _ h =>
  zbd (fX12_term F 10 a0 0 h) fun r5 h =>
  zgf h a0 35 fun x6 =>
  zjn (fun  (h : HF) => (
    some (0, h)
  )) fun j60 =>
  if x6 = 0 then (
    zwr h (a0 + 19) x2 r3 fun h =>
    zwr h (a0 + 20) x2 r5 fun h =>
    zrd h (a0 + 21) 4 fun x7 =>
    zwr h (a0 + 21) 4 (wr (x7 + 1)) fun h =>
    j60  h
  ) else (
    j60  h
  )
set_option maxHeartbeats 4000000 in
set_option maxRecDepth 100000 in
theorem mX12_same (F : Nat) (l : Launch) (g : zG) (B : Nat) (h : HF) (a0 : Nat) (ra0 : kt a0 = 15) : CTv l g B yX12_same cX12_same 4 14 [.ref (B + a0)] h (fX12_same F a0 h) := by
  refine z_enterV (by decide) rfl (Nat.le_of_ble_eq_true rfl) ?_
  intro p e s m args below meth c ls o Q cx hp hl hf hQ
  have hl : lv_has ls 4 [(0, .ref (B + a0))] := hl
  unfold fX12_same at hf
  refine z_sipush cx (by decide) dX12_same_0 ?_
  refine lv_aload_n cx.1 cx.2.1 dX12_same_3 rfl (lv_at hl 0 rfl) ?_
  refine z_gets cx hp (T := TX12) 12 27 (a0 + 21) rfl zin_12 (by decide) (by decide) ra0 rfl fl_X12_70 dX12_same_4 ?_
  refine z_iconst cx dX12_same_7 ?_
  refine z_iald cx hp (zs_12_27 a0 (kt_lt ra0 (by decide)) ra0) (by decide) dX12_same_8 hf (fun x1 rx1 hf => ?_)
  refine z_iadd cx dX12_same_9 ?_
  refine z_let (rng_wr _) hf (fun x2 rx2 hf => ?_)
  refine lv_istore_n (lv' := [(1, .int (ii x2)), (0, .ref (B + a0))]) cx.1 cx.2.1 dX12_same_10 rfl hl (by decide) rfl (fun ls hl => ?_)
  refine lv_aload_n cx.1 cx.2.1 dX12_same_11 rfl (lv_at hl 1 rfl) ?_
  refine z_iconst cx dX12_same_12 ?_
  refine z_ci cx hp (fun o' hx => zrunV (n := 14) (As := [.int (ii 0)]) (rest := []) cx hp (mX12_term F l g B 10 h a0 0 ra0 (by decide) o' hx) 12 ra0 (by decide) rfl vw_X12_term ml_X12_238 (by decide) rfl hl.1 rfl (Nat.le_of_ble_eq_true rfl) dX12_same_13) hf (fun r3 h H locs rr3 hp hf => ?_)
  refine lv_istore_n (lv' := [(2, .int (ii r3)), (1, .int (ii x2)), (0, .ref (B + a0))]) cx.1 cx.2.1 dX12_same_16 rfl hl (by decide) rfl (fun ls hl => ?_)
  refine lv_aload_n cx.1 cx.2.1 dX12_same_17 rfl (lv_at hl 2 rfl) ?_
  refine z_bipush cx (by decide) dX12_same_18 ?_
  refine z_cv cx hp (fun o' hx => zrunV (n := 14) (As := [.int (ii 61)]) (rest := []) cx hp (mX12_must F l g B h a0 61 ra0 (by decide) o' hx) 12 ra0 (by decide) rfl vw_X12_must ml_X12_241 (by decide) rfl hl.1 rfl (Nat.le_of_ble_eq_true rfl) dX12_same_20) hf (fun _ h H locs hp hf => ?_)
  refine lv_aload_n cx.1 cx.2.1 dX12_same_23 rfl (lv_at hl 2 rfl) ?_
  refine z_iconst cx dX12_same_24 ?_
  refine z_ci cx hp (fun o' hx => zrunV (n := 14) (As := [.int (ii 0)]) (rest := []) cx hp (mX12_term F l g B 10 h a0 0 ra0 (by decide) o' hx) 12 ra0 (by decide) rfl vw_X12_term ml_X12_238 (by decide) rfl hl.1 rfl (Nat.le_of_ble_eq_true rfl) dX12_same_25) hf (fun r5 h H locs rr5 hp hf => ?_)
  refine lv_istore_n (lv' := [(3, .int (ii r5)), (2, .int (ii r3)), (1, .int (ii x2)), (0, .ref (B + a0))]) cx.1 cx.2.1 dX12_same_28 rfl hl (by decide) rfl (fun ls hl => ?_)
  refine lv_aload_n cx.1 cx.2.1 dX12_same_29 rfl (lv_at hl 3 rfl) ?_
  refine z_geti cx hp (T := TX12) 12 35 rfl zin_12 (by decide) (by decide) ra0 rfl fl_X12_218 dX12_same_30 hf (fun x6 rx6 hf => ?_)
  refine z_jn hf (fun j => ∀  (h : HF) (H : Heap) (locs : List Loc) (ls : Array Slot), Hp g B s h H locs → lv_has ls 4 [] → j  h = some o → W p l e (rmn 14) s m args below meth c H locs 0 0 Q (F0 m 60 ls [])) ?_ (fun j60 hj60 hf => ?_)
  · intro  h H locs ls  hp hl hf
    rw [hQ]; exact z_vret cx hp dX12_same_60 hf
  refine z_if_ne cx rx6 (tgt := 60) dX12_same_33 (by decide) hf (fun _ hf => ?_) (fun _ hf => ?_)
  · refine lv_aload_n cx.1 cx.2.1 dX12_same_36 rfl (lv_at hl 3 rfl) ?_
    refine z_gets cx hp (T := TX12) 12 25 (a0 + 19) rfl zin_12 (by decide) (by decide) ra0 rfl fl_X12_64 dX12_same_37 ?_
    refine lv_iload_n cx.1 cx.2.1 dX12_same_40 rfl (lv_at hl 2 rfl) ?_
    refine lv_iload_n cx.1 cx.2.1 dX12_same_41 rfl (lv_at hl 1 rfl) ?_
    refine z_iast cx hp (zs_12_25 a0 (kt_lt ra0 (by decide)) ra0) rx2 rr3 dX12_same_42 hf (fun h H locs hp hf => ?_)
    refine lv_aload_n cx.1 cx.2.1 dX12_same_43 rfl (lv_at hl 3 rfl) ?_
    refine z_gets cx hp (T := TX12) 12 26 (a0 + 20) rfl zin_12 (by decide) (by decide) ra0 rfl fl_X12_67 dX12_same_44 ?_
    refine lv_iload_n cx.1 cx.2.1 dX12_same_47 rfl (lv_at hl 2 rfl) ?_
    refine lv_iload_n cx.1 cx.2.1 dX12_same_48 rfl (lv_at hl 0 rfl) ?_
    refine z_iast cx hp (zs_12_26 a0 (kt_lt ra0 (by decide)) ra0) rx2 rr5 dX12_same_49 hf (fun h H locs hp hf => ?_)
    refine lv_aload_n cx.1 cx.2.1 dX12_same_50 rfl (lv_at hl 3 rfl) ?_
    refine z_gets cx hp (T := TX12) 12 27 (a0 + 21) rfl zin_12 (by decide) (by decide) ra0 rfl fl_X12_70 dX12_same_51 ?_
    refine z_iconst cx dX12_same_54 ?_
    refine lv_dup2_11 cx.1 cx.2.1 dX12_same_55 rfl rfl ?_
    refine z_iald cx hp (zs_12_27 a0 (kt_lt ra0 (by decide)) ra0) (by decide) dX12_same_56 hf (fun x7 rx7 hf => ?_)
    refine z_iconst cx dX12_same_57 ?_
    refine z_iadd cx dX12_same_58 ?_
    refine z_iast cx hp (zs_12_27 a0 (kt_lt ra0 (by decide)) ra0) (by decide) (rng_wr _) dX12_same_59 hf (fun h H locs hp hf => ?_)
    exact hj60  h _ _ ls  hp (lv_sub hl [] rfl) hf
  · exact hj60  h _ _ ls  hp (lv_sub hl [] rfl) hf
theorem dX12_law_0 : decode cX12_law 0 = .ok (.aload_n 0, 1) := by decide +kernel
theorem dX12_law_1 : decode cX12_law 1 = .ok (.getfield 79, 3) := by decide +kernel
theorem dX12_law_4 : decode cX12_law 4 = .ok (.iconst 4, 1) := by decide +kernel
theorem dX12_law_5 : decode cX12_law 5 = .ok (.iaload, 1) := by decide +kernel
theorem dX12_law_6 : decode cX12_law 6 = .ok (.bipush 6, 2) := by decide +kernel
theorem dX12_law_8 : decode cX12_law 8 = .ok (.if_icmp .ne 28, 3) := by decide +kernel
theorem dX12_law_11 : decode cX12_law 11 = .ok (.aload_n 0, 1) := by decide +kernel
theorem dX12_law_12 : decode cX12_law 12 = .ok (.getfield 215, 3) := by decide +kernel
theorem dX12_law_15 : decode cX12_law 15 = .ok (.invokestatic 232, 3) := by decide +kernel
theorem dX12_law_18 : decode cX12_law 18 = .ok (.ifCond .ne 13, 3) := by decide +kernel
theorem dX12_law_21 : decode cX12_law 21 = .ok (.aload_n 0, 1) := by decide +kernel
theorem dX12_law_22 : decode cX12_law 22 = .ok (.getfield 215, 3) := by decide +kernel
theorem dX12_law_25 : decode cX12_law 25 = .ok (.invokestatic 235, 3) := by decide +kernel
theorem dX12_law_28 : decode cX12_law 28 = .ok (.ifCond .eq 8, 3) := by decide +kernel
theorem dX12_law_31 : decode cX12_law 31 = .ok (.aload_n 0, 1) := by decide +kernel
theorem dX12_law_32 : decode cX12_law 32 = .ok (.iconst 4, 1) := by decide +kernel
theorem dX12_law_33 : decode cX12_law 33 = .ok (.invokevirtual 230, 3) := by decide +kernel
theorem dX12_law_36 : decode cX12_law 36 = .ok (.bipush 28, 2) := by decide +kernel
theorem dX12_law_38 : decode cX12_law 38 = .ok (.aload_n 0, 1) := by decide +kernel
theorem dX12_law_39 : decode cX12_law 39 = .ok (.getfield 79, 3) := by decide +kernel
theorem dX12_law_42 : decode cX12_law 42 = .ok (.iconst 4, 1) := by decide +kernel
theorem dX12_law_43 : decode cX12_law 43 = .ok (.iaload, 1) := by decide +kernel
theorem dX12_law_44 : decode cX12_law 44 = .ok (.iadd, 1) := by decide +kernel
theorem dX12_law_45 : decode cX12_law 45 = .ok (.istore_n 1, 1) := by decide +kernel
theorem dX12_law_46 : decode cX12_law 46 = .ok (.aload_n 0, 1) := by decide +kernel
theorem dX12_law_47 : decode cX12_law 47 = .ok (.getfield 73, 3) := by decide +kernel
theorem dX12_law_50 : decode cX12_law 50 = .ok (.iload_n 1, 1) := by decide +kernel
theorem dX12_law_51 : decode cX12_law 51 = .ok (.aload_n 0, 1) := by decide +kernel
theorem dX12_law_52 : decode cX12_law 52 = .ok (.getfield 70, 3) := by decide +kernel
theorem dX12_law_55 : decode cX12_law 55 = .ok (.iconst 4, 1) := by decide +kernel
theorem dX12_law_56 : decode cX12_law 56 = .ok (.iaload, 1) := by decide +kernel
theorem dX12_law_57 : decode cX12_law 57 = .ok (.iastore, 1) := by decide +kernel
theorem dX12_law_58 : decode cX12_law 58 = .ok (.aload_n 0, 1) := by decide +kernel
theorem dX12_law_59 : decode cX12_law 59 = .ok (.getfield 76, 3) := by decide +kernel
theorem dX12_law_62 : decode cX12_law 62 = .ok (.iload_n 1, 1) := by decide +kernel
theorem dX12_law_63 : decode cX12_law 63 = .ok (.aload_n 0, 1) := by decide +kernel
theorem dX12_law_64 : decode cX12_law 64 = .ok (.getfield 61, 3) := by decide +kernel
theorem dX12_law_67 : decode cX12_law 67 = .ok (.iconst 4, 1) := by decide +kernel
theorem dX12_law_68 : decode cX12_law 68 = .ok (.iaload, 1) := by decide +kernel
theorem dX12_law_69 : decode cX12_law 69 = .ok (.iastore, 1) := by decide +kernel
theorem dX12_law_70 : decode cX12_law 70 = .ok (.aload_n 0, 1) := by decide +kernel
theorem dX12_law_71 : decode cX12_law 71 = .ok (.invokevirtual 244, 3) := by decide +kernel
theorem dX12_law_74 : decode cX12_law 74 = .ok (.iconst 0, 1) := by decide +kernel
theorem dX12_law_75 : decode cX12_law 75 = .ok (.istore_n 2, 1) := by decide +kernel
theorem dX12_law_76 : decode cX12_law 76 = .ok (.aload_n 0, 1) := by decide +kernel
theorem dX12_law_77 : decode cX12_law 77 = .ok (.bipush 38, 2) := by decide +kernel
theorem dX12_law_79 : decode cX12_law 79 = .ok (.invokevirtual 227, 3) := by decide +kernel
theorem dX12_law_82 : decode cX12_law 82 = .ok (.ifCond .eq 12, 3) := by decide +kernel
theorem dX12_law_85 : decode cX12_law 85 = .ok (.aload_n 0, 1) := by decide +kernel
theorem dX12_law_86 : decode cX12_law 86 = .ok (.invokevirtual 244, 3) := by decide +kernel
theorem dX12_law_89 : decode cX12_law 89 = .ok (.iconst 1, 1) := by decide +kernel
theorem dX12_law_90 : decode cX12_law 90 = .ok (.istore_n 2, 1) := by decide +kernel
theorem dX12_law_91 : decode cX12_law 91 = .ok (.goto (-15), 3) := by decide +kernel
theorem dX12_law_94 : decode cX12_law 94 = .ok (.iload_n 2, 1) := by decide +kernel
theorem dX12_law_95 : decode cX12_law 95 = .ok (.ifCond .eq 16, 3) := by decide +kernel
theorem dX12_law_98 : decode cX12_law 98 = .ok (.aload_n 0, 1) := by decide +kernel
theorem dX12_law_99 : decode cX12_law 99 = .ok (.bipush 62, 2) := by decide +kernel
theorem dX12_law_101 : decode cX12_law 101 = .ok (.invokevirtual 241, 3) := by decide +kernel
theorem dX12_law_104 : decode cX12_law 104 = .ok (.aload_n 0, 1) := by decide +kernel
theorem dX12_law_105 : decode cX12_law 105 = .ok (.invokevirtual 244, 3) := by decide +kernel
theorem dX12_law_108 : decode cX12_law 108 = .ok (.goto 16, 3) := by decide +kernel
theorem dX12_law_111 : decode cX12_law 111 = .ok (.aload_n 0, 1) := by decide +kernel
theorem dX12_law_112 : decode cX12_law 112 = .ok (.bipush 62, 2) := by decide +kernel
theorem dX12_law_114 : decode cX12_law 114 = .ok (.invokevirtual 227, 3) := by decide +kernel
theorem dX12_law_117 : decode cX12_law 117 = .ok (.ifCond .eq 7, 3) := by decide +kernel
theorem dX12_law_120 : decode cX12_law 120 = .ok (.aload_n 0, 1) := by decide +kernel
theorem dX12_law_121 : decode cX12_law 121 = .ok (.invokevirtual 244, 3) := by decide +kernel
theorem dX12_law_124 : decode cX12_law 124 = .ok (.aload_n 0, 1) := by decide +kernel
theorem dX12_law_125 : decode cX12_law 125 = .ok (.getfield 218, 3) := by decide +kernel
theorem dX12_law_128 : decode cX12_law 128 = .ok (.ifCond .ne 53, 3) := by decide +kernel
theorem dX12_law_131 : decode cX12_law 131 = .ok (.aload_n 0, 1) := by decide +kernel
theorem dX12_law_132 : decode cX12_law 132 = .ok (.getfield 79, 3) := by decide +kernel
theorem dX12_law_135 : decode cX12_law 135 = .ok (.iconst 4, 1) := by decide +kernel
theorem dX12_law_136 : decode cX12_law 136 = .ok (.dup2, 1) := by decide +kernel
theorem dX12_law_137 : decode cX12_law 137 = .ok (.iaload, 1) := by decide +kernel
theorem dX12_law_138 : decode cX12_law 138 = .ok (.iconst 1, 1) := by decide +kernel
theorem dX12_law_139 : decode cX12_law 139 = .ok (.iadd, 1) := by decide +kernel
theorem dX12_law_140 : decode cX12_law 140 = .ok (.iastore, 1) := by decide +kernel
theorem dX12_law_141 : decode cX12_law 141 = .ok (.aload_n 0, 1) := by decide +kernel
theorem dX12_law_142 : decode cX12_law 142 = .ok (.getfield 73, 3) := by decide +kernel
theorem dX12_law_145 : decode cX12_law 145 = .ok (.bipush 28, 2) := by decide +kernel
theorem dX12_law_147 : decode cX12_law 147 = .ok (.aload_n 0, 1) := by decide +kernel
theorem dX12_law_148 : decode cX12_law 148 = .ok (.getfield 79, 3) := by decide +kernel
theorem dX12_law_151 : decode cX12_law 151 = .ok (.iconst 4, 1) := by decide +kernel
theorem dX12_law_152 : decode cX12_law 152 = .ok (.iaload, 1) := by decide +kernel
theorem dX12_law_153 : decode cX12_law 153 = .ok (.iadd, 1) := by decide +kernel
theorem dX12_law_154 : decode cX12_law 154 = .ok (.aload_n 0, 1) := by decide +kernel
theorem dX12_law_155 : decode cX12_law 155 = .ok (.getfield 70, 3) := by decide +kernel
theorem dX12_law_158 : decode cX12_law 158 = .ok (.iconst 4, 1) := by decide +kernel
theorem dX12_law_159 : decode cX12_law 159 = .ok (.iaload, 1) := by decide +kernel
theorem dX12_law_160 : decode cX12_law 160 = .ok (.iastore, 1) := by decide +kernel
theorem dX12_law_161 : decode cX12_law 161 = .ok (.aload_n 0, 1) := by decide +kernel
theorem dX12_law_162 : decode cX12_law 162 = .ok (.getfield 76, 3) := by decide +kernel
theorem dX12_law_165 : decode cX12_law 165 = .ok (.bipush 28, 2) := by decide +kernel
theorem dX12_law_167 : decode cX12_law 167 = .ok (.aload_n 0, 1) := by decide +kernel
theorem dX12_law_168 : decode cX12_law 168 = .ok (.getfield 79, 3) := by decide +kernel
theorem dX12_law_171 : decode cX12_law 171 = .ok (.iconst 4, 1) := by decide +kernel
theorem dX12_law_172 : decode cX12_law 172 = .ok (.iaload, 1) := by decide +kernel
theorem dX12_law_173 : decode cX12_law 173 = .ok (.iadd, 1) := by decide +kernel
theorem dX12_law_174 : decode cX12_law 174 = .ok (.aload_n 0, 1) := by decide +kernel
theorem dX12_law_175 : decode cX12_law 175 = .ok (.getfield 61, 3) := by decide +kernel
theorem dX12_law_178 : decode cX12_law 178 = .ok (.iconst 4, 1) := by decide +kernel
theorem dX12_law_179 : decode cX12_law 179 = .ok (.iaload, 1) := by decide +kernel
theorem dX12_law_180 : decode cX12_law 180 = .ok (.iastore, 1) := by decide +kernel
theorem dX12_law_181 : decode cX12_law 181 = .ok (.return_, 1) := by decide +kernel
def LX12_law_76 (F : Nat) (u0 : Nat) (k94 : Int → HF → RO) : Nat → Int → HF → RO
  | 0, _, _ => none
  | n + 1, v2, h =>
    zbd (fX12_takes F u0 38 h) fun r17 h =>
    if r17 = 0 then (
      k94 v2 h
    ) else (
      zbd (fX12_same F u0 h) fun _ h =>
      LX12_law_76 F u0 k94 n 1 h
    )
set_option maxHeartbeats 4000000 in
set_option maxRecDepth 100000 in
theorem wX12_law_76 {p : Program} {l : Launch} {e : Env} {s : State} {m : MethodId} {args : Array Value} {below : List Frame} {meth : Method} {c : Code} {Q : State → Prop} {g : zG} {B : Nat} {o : Int × HF} (F : Nat) (cx : Cx p s m args meth c cX12_law 3 RX12 none g B) (u0 : Nat) (ru0 : kt u0 = 15) (k94 : Int → HF → RO) (hk94 : ∀ (x2 : Int) (h : HF) (H : Heap) (locs : List Loc) (ls : Array Slot), rng x2 → Hp g B s h H locs → lv_has ls 3 [(0, .ref (B + u0)), (2, .int (ii x2))] → k94 x2 h = some o → W p l e (rmn 15) s m args below meth c H locs 0 0 Q (F0 m 94 ls [])) : ∀ (n : Nat) (v2 : Int) (h : HF) (H : Heap) (locs : List Loc) (ls : Array Slot), rng v2 → Hp g B s h H locs → lv_has ls 3 [(0, .ref (B + u0)), (2, .int (ii v2))] → LX12_law_76 F u0 k94 n v2 h = some o → W p l e (rmn 15) s m args below meth c H locs 0 0 Q (F0 m 76 ls []) := by
  intro n
  induction n with
  | zero =>
    intro v2 h H locs ls rv2 hp hl hf
    cases hf
  | succ n ih =>
    intro v2 h H locs ls rv2 hp hl hf
    rw [LX12_law_76] at hf
    refine lv_aload_n cx.1 cx.2.1 dX12_law_76 rfl (lv_at hl 0 rfl) ?_
    refine z_bipush cx (by decide) dX12_law_77 ?_
    refine z_ci cx hp (fun o' hx => zrunV (n := 15) (As := [.int (ii 38)]) (rest := []) cx hp (mX12_takes F l g B h u0 38 ru0 (by decide) o' hx) 12 ru0 (by decide) rfl vw_X12_takes ml_X12_227 (by decide) rfl hl.1 rfl (Nat.le_of_ble_eq_true rfl) dX12_law_79) hf (fun r17 h H locs rr17 hp hf => ?_)
    refine z_if_eq cx rr17 (tgt := 94) dX12_law_82 (by decide) hf (fun _ hf => ?_) (fun _ hf => ?_)
    · exact hk94 v2 h _ _ ls rv2 hp (lv_sub hl [0, 1] rfl) hf
    · refine lv_aload_n cx.1 cx.2.1 dX12_law_85 rfl (lv_at hl 0 rfl) ?_
      refine z_cv cx hp (fun o' hx => zrunV (n := 15) (As := []) (rest := []) cx hp (mX12_same F l g B h u0 ru0 o' hx) 12 ru0 (by decide) rfl vw_X12_same ml_X12_244 (by decide) rfl hl.1 rfl (Nat.le_of_ble_eq_true rfl) dX12_law_86) hf (fun _ h H locs hp hf => ?_)
      refine z_iconst cx dX12_law_89 ?_
      refine lv_istore_n (lv' := [(2, .int (ii 1)), (0, .ref (B + u0))]) cx.1 cx.2.1 dX12_law_90 rfl hl (by decide) rfl (fun ls hl => ?_)
      refine lv_goto (tgt := 76) cx.1 cx.2.1 dX12_law_91 (by decide) ?_
      exact ih 1 h _ _ ls (by decide) hp (lv_sub hl [1, 0] rfl) hf
def fX12_law (F : Nat) (a0 : Nat) (h : HF) : RO :=
  zrd h (a0 + 24) 4 fun x1 =>
  zjn (fun  (h : HF) => (
    zrd h (a0 + 24) 4 fun x2 =>
    zlet (wr (28 + x2)) fun x3 =>
    zrd h (a0 + 21) 4 fun x4 =>
    zwr h (a0 + 22) x3 x4 fun h =>
    zrd h (a0 + 18) 4 fun x5 =>
    zwr h (a0 + 23) x3 x5 fun h =>
    zbd (fX12_same F a0 h) fun _ h =>
    zjn (fun (x94_2 : Int) (h : HF) => (
      zjn (fun  (h : HF) => (
        zgf h a0 35 fun x7 =>
        zjn (fun  (h : HF) => (
          some (0, h)
        )) fun j181 =>
        if x7 = 0 then (
          zrd h (a0 + 24) 4 fun x8 =>
          zwr h (a0 + 24) 4 (wr (x8 + 1)) fun h =>
          zrd h (a0 + 24) 4 fun x9 =>
          zrd h (a0 + 21) 4 fun x10 =>
          zwr h (a0 + 22) (wr (28 + x9)) x10 fun h =>
          zrd h (a0 + 24) 4 fun x11 =>
          zrd h (a0 + 18) 4 fun x12 =>
          zwr h (a0 + 23) (wr (28 + x11)) x12 fun h =>
          j181  h
        ) else (
          j181  h
        )
      )) fun j124 =>
      if x94_2 = 0 then (
        zbd (fX12_takes F a0 62 h) fun r13 h =>
        if r13 = 0 then (
          j124  h
        ) else (
          zbd (fX12_same F a0 h) fun _ h =>
          j124  h
        )
      ) else (
        zbd (fX12_must F a0 62 h) fun _ h =>
        zbd (fX12_same F a0 h) fun _ h =>
        j124  h
      )
    )) fun j94 =>
    LX12_law_76 F a0 j94 F 0 h
  )) fun j36 =>
  if x1 = 6 then (
    zgf h a0 33 fun x19 =>
    zbd (fX12_isVariable F x19 h) fun r20 h =>
    zjn (fun  (h : HF) => (
      zbd (fX12_wrong F a0 4 h) fun _ h =>
      j36  h
    )) fun j31 =>
    if r20 = 0 then (
      zgf h a0 33 fun x22 =>
      zbd (fX12_isLetter F x22 h) fun r23 h =>
      if r23 = 0 then (
        j36  h
      ) else (
        j31  h
      )
    ) else (
      j31  h
    )
  ) else (
    j36  h
  )
set_option maxHeartbeats 4000000 in
set_option maxRecDepth 100000 in
theorem mX12_law (F : Nat) (l : Launch) (g : zG) (B : Nat) (h : HF) (a0 : Nat) (ra0 : kt a0 = 15) : CTv l g B yX12_law cX12_law 3 15 [.ref (B + a0)] h (fX12_law F a0 h) := by
  refine z_enterV (by decide) rfl (Nat.le_of_ble_eq_true rfl) ?_
  intro p e s m args below meth c ls o Q cx hp hl hf hQ
  have hl : lv_has ls 3 [(0, .ref (B + a0))] := hl
  unfold fX12_law at hf
  refine lv_aload_n cx.1 cx.2.1 dX12_law_0 rfl (lv_at hl 0 rfl) ?_
  refine z_gets cx hp (T := TX12) 12 30 (a0 + 24) rfl zin_12 (by decide) (by decide) ra0 rfl fl_X12_79 dX12_law_1 ?_
  refine z_iconst cx dX12_law_4 ?_
  refine z_iald cx hp (zs_12_30 a0 (kt_lt ra0 (by decide)) ra0) (by decide) dX12_law_5 hf (fun x1 rx1 hf => ?_)
  refine z_bipush cx (by decide) dX12_law_6 ?_
  refine z_jn hf (fun j => ∀  (h : HF) (H : Heap) (locs : List Loc) (ls : Array Slot), Hp g B s h H locs → lv_has ls 3 [(0, .ref (B + a0))] → j  h = some o → W p l e (rmn 15) s m args below meth c H locs 0 0 Q (F0 m 36 ls [])) ?_ (fun j36 hj36 hf => ?_)
  · intro  h H locs ls  hp hl hf
    refine z_bipush cx (by decide) dX12_law_36 ?_
    refine lv_aload_n cx.1 cx.2.1 dX12_law_38 rfl (lv_at hl 0 rfl) ?_
    refine z_gets cx hp (T := TX12) 12 30 (a0 + 24) rfl zin_12 (by decide) (by decide) ra0 rfl fl_X12_79 dX12_law_39 ?_
    refine z_iconst cx dX12_law_42 ?_
    refine z_iald cx hp (zs_12_30 a0 (kt_lt ra0 (by decide)) ra0) (by decide) dX12_law_43 hf (fun x2 rx2 hf => ?_)
    refine z_iadd cx dX12_law_44 ?_
    refine z_let (rng_wr _) hf (fun x3 rx3 hf => ?_)
    refine lv_istore_n (lv' := [(1, .int (ii x3)), (0, .ref (B + a0))]) cx.1 cx.2.1 dX12_law_45 rfl hl (by decide) rfl (fun ls hl => ?_)
    refine lv_aload_n cx.1 cx.2.1 dX12_law_46 rfl (lv_at hl 1 rfl) ?_
    refine z_gets cx hp (T := TX12) 12 28 (a0 + 22) rfl zin_12 (by decide) (by decide) ra0 rfl fl_X12_73 dX12_law_47 ?_
    refine lv_iload_n cx.1 cx.2.1 dX12_law_50 rfl (lv_at hl 0 rfl) ?_
    refine lv_aload_n cx.1 cx.2.1 dX12_law_51 rfl (lv_at hl 1 rfl) ?_
    refine z_gets cx hp (T := TX12) 12 27 (a0 + 21) rfl zin_12 (by decide) (by decide) ra0 rfl fl_X12_70 dX12_law_52 ?_
    refine z_iconst cx dX12_law_55 ?_
    refine z_iald cx hp (zs_12_27 a0 (kt_lt ra0 (by decide)) ra0) (by decide) dX12_law_56 hf (fun x4 rx4 hf => ?_)
    refine z_iast cx hp (zs_12_28 a0 (kt_lt ra0 (by decide)) ra0) rx3 rx4 dX12_law_57 hf (fun h H locs hp hf => ?_)
    refine lv_aload_n cx.1 cx.2.1 dX12_law_58 rfl (lv_at hl 1 rfl) ?_
    refine z_gets cx hp (T := TX12) 12 29 (a0 + 23) rfl zin_12 (by decide) (by decide) ra0 rfl fl_X12_76 dX12_law_59 ?_
    refine lv_iload_n cx.1 cx.2.1 dX12_law_62 rfl (lv_at hl 0 rfl) ?_
    refine lv_aload_n cx.1 cx.2.1 dX12_law_63 rfl (lv_at hl 1 rfl) ?_
    refine z_gets cx hp (T := TX12) 12 24 (a0 + 18) rfl zin_12 (by decide) (by decide) ra0 rfl fl_X12_61 dX12_law_64 ?_
    refine z_iconst cx dX12_law_67 ?_
    refine z_iald cx hp (zs_12_24 a0 (kt_lt ra0 (by decide)) ra0) (by decide) dX12_law_68 hf (fun x5 rx5 hf => ?_)
    refine z_iast cx hp (zs_12_29 a0 (kt_lt ra0 (by decide)) ra0) rx3 rx5 dX12_law_69 hf (fun h H locs hp hf => ?_)
    refine lv_aload_n cx.1 cx.2.1 dX12_law_70 rfl (lv_at hl 1 rfl) ?_
    refine z_cv cx hp (fun o' hx => zrunV (n := 15) (As := []) (rest := []) cx hp (mX12_same F l g B h a0 ra0 o' hx) 12 ra0 (by decide) rfl vw_X12_same ml_X12_244 (by decide) rfl hl.1 rfl (Nat.le_of_ble_eq_true rfl) dX12_law_71) hf (fun _ h H locs hp hf => ?_)
    refine z_iconst cx dX12_law_74 ?_
    refine lv_istore_n (lv' := [(2, .int (ii 0)), (1, .int (ii x3)), (0, .ref (B + a0))]) cx.1 cx.2.1 dX12_law_75 rfl hl (by decide) rfl (fun ls hl => ?_)
    refine z_jn hf (fun j => ∀ (x94_2 : Int) (h : HF) (H : Heap) (locs : List Loc) (ls : Array Slot), rng x94_2 → Hp g B s h H locs → lv_has ls 3 [(0, .ref (B + a0)), (2, .int (ii x94_2))] → j x94_2 h = some o → W p l e (rmn 15) s m args below meth c H locs 0 0 Q (F0 m 94 ls [])) ?_ (fun j94 hj94 hf => ?_)
    · intro x94_2 h H locs ls rx94_2 hp hl hf
      refine lv_iload_n cx.1 cx.2.1 dX12_law_94 rfl (lv_at hl 1 rfl) ?_
      refine z_jn hf (fun j => ∀  (h : HF) (H : Heap) (locs : List Loc) (ls : Array Slot), Hp g B s h H locs → lv_has ls 3 [(0, .ref (B + a0))] → j  h = some o → W p l e (rmn 15) s m args below meth c H locs 0 0 Q (F0 m 124 ls [])) ?_ (fun j124 hj124 hf => ?_)
      · intro  h H locs ls  hp hl hf
        refine lv_aload_n cx.1 cx.2.1 dX12_law_124 rfl (lv_at hl 0 rfl) ?_
        refine z_geti cx hp (T := TX12) 12 35 rfl zin_12 (by decide) (by decide) ra0 rfl fl_X12_218 dX12_law_125 hf (fun x7 rx7 hf => ?_)
        refine z_jn hf (fun j => ∀  (h : HF) (H : Heap) (locs : List Loc) (ls : Array Slot), Hp g B s h H locs → lv_has ls 3 [] → j  h = some o → W p l e (rmn 15) s m args below meth c H locs 0 0 Q (F0 m 181 ls [])) ?_ (fun j181 hj181 hf => ?_)
        · intro  h H locs ls  hp hl hf
          rw [hQ]; exact z_vret cx hp dX12_law_181 hf
        refine z_if_ne cx rx7 (tgt := 181) dX12_law_128 (by decide) hf (fun _ hf => ?_) (fun _ hf => ?_)
        · refine lv_aload_n cx.1 cx.2.1 dX12_law_131 rfl (lv_at hl 0 rfl) ?_
          refine z_gets cx hp (T := TX12) 12 30 (a0 + 24) rfl zin_12 (by decide) (by decide) ra0 rfl fl_X12_79 dX12_law_132 ?_
          refine z_iconst cx dX12_law_135 ?_
          refine lv_dup2_11 cx.1 cx.2.1 dX12_law_136 rfl rfl ?_
          refine z_iald cx hp (zs_12_30 a0 (kt_lt ra0 (by decide)) ra0) (by decide) dX12_law_137 hf (fun x8 rx8 hf => ?_)
          refine z_iconst cx dX12_law_138 ?_
          refine z_iadd cx dX12_law_139 ?_
          refine z_iast cx hp (zs_12_30 a0 (kt_lt ra0 (by decide)) ra0) (by decide) (rng_wr _) dX12_law_140 hf (fun h H locs hp hf => ?_)
          refine lv_aload_n cx.1 cx.2.1 dX12_law_141 rfl (lv_at hl 0 rfl) ?_
          refine z_gets cx hp (T := TX12) 12 28 (a0 + 22) rfl zin_12 (by decide) (by decide) ra0 rfl fl_X12_73 dX12_law_142 ?_
          refine z_bipush cx (by decide) dX12_law_145 ?_
          refine lv_aload_n cx.1 cx.2.1 dX12_law_147 rfl (lv_at hl 0 rfl) ?_
          refine z_gets cx hp (T := TX12) 12 30 (a0 + 24) rfl zin_12 (by decide) (by decide) ra0 rfl fl_X12_79 dX12_law_148 ?_
          refine z_iconst cx dX12_law_151 ?_
          refine z_iald cx hp (zs_12_30 a0 (kt_lt ra0 (by decide)) ra0) (by decide) dX12_law_152 hf (fun x9 rx9 hf => ?_)
          refine z_iadd cx dX12_law_153 ?_
          refine lv_aload_n cx.1 cx.2.1 dX12_law_154 rfl (lv_at hl 0 rfl) ?_
          refine z_gets cx hp (T := TX12) 12 27 (a0 + 21) rfl zin_12 (by decide) (by decide) ra0 rfl fl_X12_70 dX12_law_155 ?_
          refine z_iconst cx dX12_law_158 ?_
          refine z_iald cx hp (zs_12_27 a0 (kt_lt ra0 (by decide)) ra0) (by decide) dX12_law_159 hf (fun x10 rx10 hf => ?_)
          refine z_iast cx hp (zs_12_28 a0 (kt_lt ra0 (by decide)) ra0) (rng_wr _) rx10 dX12_law_160 hf (fun h H locs hp hf => ?_)
          refine lv_aload_n cx.1 cx.2.1 dX12_law_161 rfl (lv_at hl 0 rfl) ?_
          refine z_gets cx hp (T := TX12) 12 29 (a0 + 23) rfl zin_12 (by decide) (by decide) ra0 rfl fl_X12_76 dX12_law_162 ?_
          refine z_bipush cx (by decide) dX12_law_165 ?_
          refine lv_aload_n cx.1 cx.2.1 dX12_law_167 rfl (lv_at hl 0 rfl) ?_
          refine z_gets cx hp (T := TX12) 12 30 (a0 + 24) rfl zin_12 (by decide) (by decide) ra0 rfl fl_X12_79 dX12_law_168 ?_
          refine z_iconst cx dX12_law_171 ?_
          refine z_iald cx hp (zs_12_30 a0 (kt_lt ra0 (by decide)) ra0) (by decide) dX12_law_172 hf (fun x11 rx11 hf => ?_)
          refine z_iadd cx dX12_law_173 ?_
          refine lv_aload_n cx.1 cx.2.1 dX12_law_174 rfl (lv_at hl 0 rfl) ?_
          refine z_gets cx hp (T := TX12) 12 24 (a0 + 18) rfl zin_12 (by decide) (by decide) ra0 rfl fl_X12_61 dX12_law_175 ?_
          refine z_iconst cx dX12_law_178 ?_
          refine z_iald cx hp (zs_12_24 a0 (kt_lt ra0 (by decide)) ra0) (by decide) dX12_law_179 hf (fun x12 rx12 hf => ?_)
          refine z_iast cx hp (zs_12_29 a0 (kt_lt ra0 (by decide)) ra0) (rng_wr _) rx12 dX12_law_180 hf (fun h H locs hp hf => ?_)
          exact hj181  h _ _ ls  hp (lv_sub hl [] rfl) hf
        · exact hj181  h _ _ ls  hp (lv_sub hl [] rfl) hf
      refine z_if_eq cx rx94_2 (tgt := 111) dX12_law_95 (by decide) hf (fun _ hf => ?_) (fun _ hf => ?_)
      · refine lv_aload_n cx.1 cx.2.1 dX12_law_111 rfl (lv_at hl 0 rfl) ?_
        refine z_bipush cx (by decide) dX12_law_112 ?_
        refine z_ci cx hp (fun o' hx => zrunV (n := 15) (As := [.int (ii 62)]) (rest := []) cx hp (mX12_takes F l g B h a0 62 ra0 (by decide) o' hx) 12 ra0 (by decide) rfl vw_X12_takes ml_X12_227 (by decide) rfl hl.1 rfl (Nat.le_of_ble_eq_true rfl) dX12_law_114) hf (fun r13 h H locs rr13 hp hf => ?_)
        refine z_if_eq cx rr13 (tgt := 124) dX12_law_117 (by decide) hf (fun _ hf => ?_) (fun _ hf => ?_)
        · exact hj124  h _ _ ls  hp (lv_sub hl [0] rfl) hf
        · refine lv_aload_n cx.1 cx.2.1 dX12_law_120 rfl (lv_at hl 0 rfl) ?_
          refine z_cv cx hp (fun o' hx => zrunV (n := 15) (As := []) (rest := []) cx hp (mX12_same F l g B h a0 ra0 o' hx) 12 ra0 (by decide) rfl vw_X12_same ml_X12_244 (by decide) rfl hl.1 rfl (Nat.le_of_ble_eq_true rfl) dX12_law_121) hf (fun _ h H locs hp hf => ?_)
          exact hj124  h _ _ ls  hp (lv_sub hl [0] rfl) hf
      · refine lv_aload_n cx.1 cx.2.1 dX12_law_98 rfl (lv_at hl 0 rfl) ?_
        refine z_bipush cx (by decide) dX12_law_99 ?_
        refine z_cv cx hp (fun o' hx => zrunV (n := 15) (As := [.int (ii 62)]) (rest := []) cx hp (mX12_must F l g B h a0 62 ra0 (by decide) o' hx) 12 ra0 (by decide) rfl vw_X12_must ml_X12_241 (by decide) rfl hl.1 rfl (Nat.le_of_ble_eq_true rfl) dX12_law_101) hf (fun _ h H locs hp hf => ?_)
        refine lv_aload_n cx.1 cx.2.1 dX12_law_104 rfl (lv_at hl 0 rfl) ?_
        refine z_cv cx hp (fun o' hx => zrunV (n := 15) (As := []) (rest := []) cx hp (mX12_same F l g B h a0 ra0 o' hx) 12 ra0 (by decide) rfl vw_X12_same ml_X12_244 (by decide) rfl hl.1 rfl (Nat.le_of_ble_eq_true rfl) dX12_law_105) hf (fun _ h H locs hp hf => ?_)
        refine lv_goto (tgt := 124) cx.1 cx.2.1 dX12_law_108 (by decide) ?_
        exact hj124  h _ _ ls  hp (lv_sub hl [0] rfl) hf
    exact wX12_law_76 F cx a0 ra0 j94 hj94 F 0 h _ _ ls (by decide) hp (lv_sub hl [2, 0] rfl) hf
  refine z_icmp_ne cx rx1 (by decide) (tgt := 36) dX12_law_8 (by decide) hf (fun _ hf => ?_) (fun _ hf => ?_)
  · refine lv_aload_n cx.1 cx.2.1 dX12_law_11 rfl (lv_at hl 0 rfl) ?_
    refine z_geti cx hp (T := TX12) 12 33 rfl zin_12 (by decide) (by decide) ra0 rfl fl_X12_215 dX12_law_12 hf (fun x19 rx19 hf => ?_)
    refine z_ci cx hp (fun o' hx => zrunS (n := 15) (As := [.int (ii x19)]) (rest := []) cx hp (mX12_isVariable F l g B h x19 rx19 o' hx) sw_X12_isVariable ml_X12_232 (by decide) rfl hl.1 rfl (Nat.le_of_ble_eq_true rfl) dX12_law_15) hf (fun r20 h H locs rr20 hp hf => ?_)
    refine z_jn hf (fun j => ∀  (h : HF) (H : Heap) (locs : List Loc) (ls : Array Slot), Hp g B s h H locs → lv_has ls 3 [(0, .ref (B + a0))] → j  h = some o → W p l e (rmn 15) s m args below meth c H locs 0 0 Q (F0 m 31 ls [])) ?_ (fun j31 hj31 hf => ?_)
    · intro  h H locs ls  hp hl hf
      refine lv_aload_n cx.1 cx.2.1 dX12_law_31 rfl (lv_at hl 0 rfl) ?_
      refine z_iconst cx dX12_law_32 ?_
      refine z_cv cx hp (fun o' hx => zrunV (n := 15) (As := [.int (ii 4)]) (rest := []) cx hp (mX12_wrong F l g B h a0 4 ra0 (by decide) o' hx) 12 ra0 (by decide) rfl vw_X12_wrong ml_X12_230 (by decide) rfl hl.1 rfl (Nat.le_of_ble_eq_true rfl) dX12_law_33) hf (fun _ h H locs hp hf => ?_)
      exact hj36  h _ _ ls  hp (lv_sub hl [0] rfl) hf
    refine z_if_ne cx rr20 (tgt := 31) dX12_law_18 (by decide) hf (fun _ hf => ?_) (fun _ hf => ?_)
    · refine lv_aload_n cx.1 cx.2.1 dX12_law_21 rfl (lv_at hl 0 rfl) ?_
      refine z_geti cx hp (T := TX12) 12 33 rfl zin_12 (by decide) (by decide) ra0 rfl fl_X12_215 dX12_law_22 hf (fun x22 rx22 hf => ?_)
      refine z_ci cx hp (fun o' hx => zrunS (n := 15) (As := [.int (ii x22)]) (rest := []) cx hp (mX12_isLetter F l g B h x22 rx22 o' hx) sw_X12_isLetter ml_X12_235 (by decide) rfl hl.1 rfl (Nat.le_of_ble_eq_true rfl) dX12_law_25) hf (fun r23 h H locs rr23 hp hf => ?_)
      refine z_if_eq cx rr23 (tgt := 36) dX12_law_28 (by decide) hf (fun _ hf => ?_) (fun _ hf => ?_)
      · exact hj36  h _ _ ls  hp (lv_sub hl [0] rfl) hf
      · exact hj31  h _ _ ls  hp (lv_sub hl [0] rfl) hf
    · exact hj31  h _ _ ls  hp (lv_sub hl [0] rfl) hf
  · exact hj36  h _ _ ls  hp (lv_sub hl [0] rfl) hf
theorem dX12_agree_0 : decode cX12_agree 0 = .ok (.iconst 0, 1) := by decide +kernel
theorem dX12_agree_1 : decode cX12_agree 1 = .ok (.istore_n 1, 1) := by decide +kernel
theorem dX12_agree_2 : decode cX12_agree 2 = .ok (.iload_n 1, 1) := by decide +kernel
theorem dX12_agree_3 : decode cX12_agree 3 = .ok (.aload_n 0, 1) := by decide +kernel
theorem dX12_agree_4 : decode cX12_agree 4 = .ok (.getfield 61, 3) := by decide +kernel
theorem dX12_agree_7 : decode cX12_agree 7 = .ok (.iconst 4, 1) := by decide +kernel
theorem dX12_agree_8 : decode cX12_agree 8 = .ok (.iaload, 1) := by decide +kernel
theorem dX12_agree_9 : decode cX12_agree 9 = .ok (.if_icmp .ge 85, 3) := by decide +kernel
theorem dX12_agree_12 : decode cX12_agree 12 = .ok (.aload_n 0, 1) := by decide +kernel
theorem dX12_agree_13 : decode cX12_agree 13 = .ok (.getfield 218, 3) := by decide +kernel
theorem dX12_agree_16 : decode cX12_agree 16 = .ok (.ifCond .ne 78, 3) := by decide +kernel
theorem dX12_agree_19 : decode cX12_agree 19 = .ok (.iconst 0, 1) := by decide +kernel
theorem dX12_agree_20 : decode cX12_agree 20 = .ok (.istore_n 2, 1) := by decide +kernel
theorem dX12_agree_21 : decode cX12_agree 21 = .ok (.aload_n 0, 1) := by decide +kernel
theorem dX12_agree_22 : decode cX12_agree 22 = .ok (.getfield 46, 3) := by decide +kernel
theorem dX12_agree_25 : decode cX12_agree 25 = .ok (.sipush 320, 3) := by decide +kernel
theorem dX12_agree_28 : decode cX12_agree 28 = .ok (.iload_n 2, 1) := by decide +kernel
theorem dX12_agree_29 : decode cX12_agree 29 = .ok (.iadd, 1) := by decide +kernel
theorem dX12_agree_30 : decode cX12_agree 30 = .ok (.iaload, 1) := by decide +kernel
theorem dX12_agree_31 : decode cX12_agree 31 = .ok (.aload_n 0, 1) := by decide +kernel
theorem dX12_agree_32 : decode cX12_agree 32 = .ok (.getfield 46, 3) := by decide +kernel
theorem dX12_agree_35 : decode cX12_agree 35 = .ok (.sipush 320, 3) := by decide +kernel
theorem dX12_agree_38 : decode cX12_agree 38 = .ok (.iload_n 1, 1) := by decide +kernel
theorem dX12_agree_39 : decode cX12_agree 39 = .ok (.iadd, 1) := by decide +kernel
theorem dX12_agree_40 : decode cX12_agree 40 = .ok (.iaload, 1) := by decide +kernel
theorem dX12_agree_41 : decode cX12_agree 41 = .ok (.if_icmp .eq 9, 3) := by decide +kernel
theorem dX12_agree_44 : decode cX12_agree 44 = .ok (.iinc 2 1, 3) := by decide +kernel
theorem dX12_agree_47 : decode cX12_agree 47 = .ok (.goto (-26), 3) := by decide +kernel
theorem dX12_agree_50 : decode cX12_agree 50 = .ok (.aload_n 0, 1) := by decide +kernel
theorem dX12_agree_51 : decode cX12_agree 51 = .ok (.getfield 49, 3) := by decide +kernel
theorem dX12_agree_54 : decode cX12_agree 54 = .ok (.sipush 320, 3) := by decide +kernel
theorem dX12_agree_57 : decode cX12_agree 57 = .ok (.iload_n 2, 1) := by decide +kernel
theorem dX12_agree_58 : decode cX12_agree 58 = .ok (.iadd, 1) := by decide +kernel
theorem dX12_agree_59 : decode cX12_agree 59 = .ok (.iaload, 1) := by decide +kernel
theorem dX12_agree_60 : decode cX12_agree 60 = .ok (.aload_n 0, 1) := by decide +kernel
theorem dX12_agree_61 : decode cX12_agree 61 = .ok (.getfield 49, 3) := by decide +kernel
theorem dX12_agree_64 : decode cX12_agree 64 = .ok (.sipush 320, 3) := by decide +kernel
theorem dX12_agree_67 : decode cX12_agree 67 = .ok (.iload_n 1, 1) := by decide +kernel
theorem dX12_agree_68 : decode cX12_agree 68 = .ok (.iadd, 1) := by decide +kernel
theorem dX12_agree_69 : decode cX12_agree 69 = .ok (.iaload, 1) := by decide +kernel
theorem dX12_agree_70 : decode cX12_agree 70 = .ok (.if_icmp .eq 18, 3) := by decide +kernel
theorem dX12_agree_73 : decode cX12_agree 73 = .ok (.aload_n 0, 1) := by decide +kernel
theorem dX12_agree_74 : decode cX12_agree 74 = .ok (.iconst 2, 1) := by decide +kernel
theorem dX12_agree_75 : decode cX12_agree 75 = .ok (.putfield 218, 3) := by decide +kernel
theorem dX12_agree_78 : decode cX12_agree 78 = .ok (.aload_n 0, 1) := by decide +kernel
theorem dX12_agree_79 : decode cX12_agree 79 = .ok (.aload_n 0, 1) := by decide +kernel
theorem dX12_agree_80 : decode cX12_agree 80 = .ok (.getfield 58, 3) := by decide +kernel
theorem dX12_agree_83 : decode cX12_agree 83 = .ok (.iload_n 1, 1) := by decide +kernel
theorem dX12_agree_84 : decode cX12_agree 84 = .ok (.iaload, 1) := by decide +kernel
theorem dX12_agree_85 : decode cX12_agree 85 = .ok (.putfield 221, 3) := by decide +kernel
theorem dX12_agree_88 : decode cX12_agree 88 = .ok (.iinc 1 1, 3) := by decide +kernel
theorem dX12_agree_91 : decode cX12_agree 91 = .ok (.goto (-89), 3) := by decide +kernel
theorem dX12_agree_94 : decode cX12_agree 94 = .ok (.return_, 1) := by decide +kernel
def LX12_agree_21 (F : Nat) (u0 : Nat) (u1 : Int) (k50 : Int → Int → HF → RO) : Nat → Int → HF → RO
  | 0, _, _ => none
  | n + 1, v2, h =>
    zrd h (u0 + 13) (wr (320 + v2)) fun x7 =>
    zrd h (u0 + 13) (wr (320 + u1)) fun x8 =>
    if x7 = x8 then (
      k50 u1 v2 h
    ) else (
      zlet (wr (v2 + 1)) fun x9 =>
      LX12_agree_21 F u0 u1 k50 n x9 h
    )
set_option maxHeartbeats 4000000 in
set_option maxRecDepth 100000 in
theorem wX12_agree_21 {p : Program} {l : Launch} {e : Env} {s : State} {m : MethodId} {args : Array Value} {below : List Frame} {meth : Method} {c : Code} {Q : State → Prop} {g : zG} {B : Nat} {o : Int × HF} (F : Nat) (cx : Cx p s m args meth c cX12_agree 3 RX12 none g B) (u0 : Nat) (ru0 : kt u0 = 15) (u1 : Int) (ru1 : rng u1) (k50 : Int → Int → HF → RO) (hk50 : ∀ (x1 : Int) (x2 : Int) (h : HF) (H : Heap) (locs : List Loc) (ls : Array Slot), rng x1 → rng x2 → Hp g B s h H locs → lv_has ls 3 [(0, .ref (B + u0)), (1, .int (ii x1)), (2, .int (ii x2))] → k50 x1 x2 h = some o → W p l e (rmn 0) s m args below meth c H locs 0 0 Q (F0 m 50 ls [])) : ∀ (n : Nat) (v2 : Int) (h : HF) (H : Heap) (locs : List Loc) (ls : Array Slot), rng v2 → Hp g B s h H locs → lv_has ls 3 [(0, .ref (B + u0)), (1, .int (ii u1)), (2, .int (ii v2))] → LX12_agree_21 F u0 u1 k50 n v2 h = some o → W p l e (rmn 0) s m args below meth c H locs 0 0 Q (F0 m 21 ls []) := by
  intro n
  induction n with
  | zero =>
    intro v2 h H locs ls rv2 hp hl hf
    cases hf
  | succ n ih =>
    intro v2 h H locs ls rv2 hp hl hf
    rw [LX12_agree_21] at hf
    refine lv_aload_n cx.1 cx.2.1 dX12_agree_21 rfl (lv_at hl 0 rfl) ?_
    refine z_gets cx hp (T := TX12) 12 19 (u0 + 13) rfl zin_12 (by decide) (by decide) ru0 rfl fl_X12_46 dX12_agree_22 ?_
    refine z_sipush cx (by decide) dX12_agree_25 ?_
    refine lv_iload_n cx.1 cx.2.1 dX12_agree_28 rfl (lv_at hl 2 rfl) ?_
    refine z_iadd cx dX12_agree_29 ?_
    refine z_iald cx hp (zs_12_19 u0 (kt_lt ru0 (by decide)) ru0) (rng_wr _) dX12_agree_30 hf (fun x7 rx7 hf => ?_)
    refine lv_aload_n cx.1 cx.2.1 dX12_agree_31 rfl (lv_at hl 0 rfl) ?_
    refine z_gets cx hp (T := TX12) 12 19 (u0 + 13) rfl zin_12 (by decide) (by decide) ru0 rfl fl_X12_46 dX12_agree_32 ?_
    refine z_sipush cx (by decide) dX12_agree_35 ?_
    refine lv_iload_n cx.1 cx.2.1 dX12_agree_38 rfl (lv_at hl 1 rfl) ?_
    refine z_iadd cx dX12_agree_39 ?_
    refine z_iald cx hp (zs_12_19 u0 (kt_lt ru0 (by decide)) ru0) (rng_wr _) dX12_agree_40 hf (fun x8 rx8 hf => ?_)
    refine z_icmp_eq cx rx7 rx8 (tgt := 50) dX12_agree_41 (by decide) hf (fun _ hf => ?_) (fun _ hf => ?_)
    · exact hk50 u1 v2 h _ _ ls ru1 rv2 hp (lv_sub hl [0, 1, 2] rfl) hf
    · refine z_iinc cx (fun x9 => [(2, .int (ii x9)), (0, .ref (B + u0)), (1, .int (ii u1))]) dX12_agree_44 hl (k := 2) rfl (by decide) (fun _ => rfl) hf (fun x9 rx9 hf ls hl => ?_)
      refine lv_goto (tgt := 21) cx.1 cx.2.1 dX12_agree_47 (by decide) ?_
      exact ih x9 h _ _ ls rx9 hp (lv_sub hl [1, 2, 0] rfl) hf
def LX12_agree_2 (F : Nat) (u0 : Nat) (k94 : HF → RO) : Nat → Int → HF → RO
  | 0, _, _ => none
  | n + 1, v1, h =>
    zrd h (u0 + 18) 4 fun x1 =>
    if v1 < x1 then (
      zgf h u0 35 fun x2 =>
      if x2 = 0 then (
        zjn (fun (x50_1 : Int) (x50_2 : Int) (h : HF) => (
          zrd h (u0 + 14) (wr (320 + x50_2)) fun x3 =>
          zrd h (u0 + 14) (wr (320 + x50_1)) fun x4 =>
          zjn (fun (x88_1 : Int) (h : HF) => (
            zlet (wr (x88_1 + 1)) fun x5 =>
            LX12_agree_2 F u0 k94 n x5 h
          )) fun j88 =>
          if x3 = x4 then (
            j88 x50_1 h
          ) else (
            zpf h u0 35 2 fun h =>
            zrd h (u0 + 17) x50_1 fun x6 =>
            zpf h u0 36 x6 fun h =>
            j88 x50_1 h
          )
        )) fun j50 =>
        LX12_agree_21 F u0 v1 j50 F 0 h
      ) else (
        k94  h
      )
    ) else (
      k94  h
    )
set_option maxHeartbeats 4000000 in
set_option maxRecDepth 100000 in
theorem wX12_agree_2 {p : Program} {l : Launch} {e : Env} {s : State} {m : MethodId} {args : Array Value} {below : List Frame} {meth : Method} {c : Code} {Q : State → Prop} {g : zG} {B : Nat} {o : Int × HF} (F : Nat) (cx : Cx p s m args meth c cX12_agree 3 RX12 none g B) (u0 : Nat) (ru0 : kt u0 = 15) (k94 : HF → RO) (hk94 : ∀  (h : HF) (H : Heap) (locs : List Loc) (ls : Array Slot), Hp g B s h H locs → lv_has ls 3 [] → k94  h = some o → W p l e (rmn 0) s m args below meth c H locs 0 0 Q (F0 m 94 ls [])) : ∀ (n : Nat) (v1 : Int) (h : HF) (H : Heap) (locs : List Loc) (ls : Array Slot), rng v1 → Hp g B s h H locs → lv_has ls 3 [(0, .ref (B + u0)), (1, .int (ii v1))] → LX12_agree_2 F u0 k94 n v1 h = some o → W p l e (rmn 0) s m args below meth c H locs 0 0 Q (F0 m 2 ls []) := by
  intro n
  induction n with
  | zero =>
    intro v1 h H locs ls rv1 hp hl hf
    cases hf
  | succ n ih =>
    intro v1 h H locs ls rv1 hp hl hf
    rw [LX12_agree_2] at hf
    refine lv_iload_n cx.1 cx.2.1 dX12_agree_2 rfl (lv_at hl 1 rfl) ?_
    refine lv_aload_n cx.1 cx.2.1 dX12_agree_3 rfl (lv_at hl 0 rfl) ?_
    refine z_gets cx hp (T := TX12) 12 24 (u0 + 18) rfl zin_12 (by decide) (by decide) ru0 rfl fl_X12_61 dX12_agree_4 ?_
    refine z_iconst cx dX12_agree_7 ?_
    refine z_iald cx hp (zs_12_24 u0 (kt_lt ru0 (by decide)) ru0) (by decide) dX12_agree_8 hf (fun x1 rx1 hf => ?_)
    refine z_icmp_ge cx rv1 rx1 (tgt := 94) dX12_agree_9 (by decide) hf (fun _ hf => ?_) (fun _ hf => ?_)
    · refine lv_aload_n cx.1 cx.2.1 dX12_agree_12 rfl (lv_at hl 0 rfl) ?_
      refine z_geti cx hp (T := TX12) 12 35 rfl zin_12 (by decide) (by decide) ru0 rfl fl_X12_218 dX12_agree_13 hf (fun x2 rx2 hf => ?_)
      refine z_if_ne cx rx2 (tgt := 94) dX12_agree_16 (by decide) hf (fun _ hf => ?_) (fun _ hf => ?_)
      · refine z_iconst cx dX12_agree_19 ?_
        refine lv_istore_n (lv' := [(2, .int (ii 0)), (0, .ref (B + u0)), (1, .int (ii v1))]) cx.1 cx.2.1 dX12_agree_20 rfl hl (by decide) rfl (fun ls hl => ?_)
        refine z_jn hf (fun j => ∀ (x50_1 : Int) (x50_2 : Int) (h : HF) (H : Heap) (locs : List Loc) (ls : Array Slot), rng x50_1 → rng x50_2 → Hp g B s h H locs → lv_has ls 3 [(0, .ref (B + u0)), (1, .int (ii x50_1)), (2, .int (ii x50_2))] → j x50_1 x50_2 h = some o → W p l e (rmn 0) s m args below meth c H locs 0 0 Q (F0 m 50 ls [])) ?_ (fun j50 hj50 hf => ?_)
        · intro x50_1 x50_2 h H locs ls rx50_1 rx50_2 hp hl hf
          refine lv_aload_n cx.1 cx.2.1 dX12_agree_50 rfl (lv_at hl 0 rfl) ?_
          refine z_gets cx hp (T := TX12) 12 20 (u0 + 14) rfl zin_12 (by decide) (by decide) ru0 rfl fl_X12_49 dX12_agree_51 ?_
          refine z_sipush cx (by decide) dX12_agree_54 ?_
          refine lv_iload_n cx.1 cx.2.1 dX12_agree_57 rfl (lv_at hl 2 rfl) ?_
          refine z_iadd cx dX12_agree_58 ?_
          refine z_iald cx hp (zs_12_20 u0 (kt_lt ru0 (by decide)) ru0) (rng_wr _) dX12_agree_59 hf (fun x3 rx3 hf => ?_)
          refine lv_aload_n cx.1 cx.2.1 dX12_agree_60 rfl (lv_at hl 0 rfl) ?_
          refine z_gets cx hp (T := TX12) 12 20 (u0 + 14) rfl zin_12 (by decide) (by decide) ru0 rfl fl_X12_49 dX12_agree_61 ?_
          refine z_sipush cx (by decide) dX12_agree_64 ?_
          refine lv_iload_n cx.1 cx.2.1 dX12_agree_67 rfl (lv_at hl 1 rfl) ?_
          refine z_iadd cx dX12_agree_68 ?_
          refine z_iald cx hp (zs_12_20 u0 (kt_lt ru0 (by decide)) ru0) (rng_wr _) dX12_agree_69 hf (fun x4 rx4 hf => ?_)
          refine z_jn hf (fun j => ∀ (x88_1 : Int) (h : HF) (H : Heap) (locs : List Loc) (ls : Array Slot), rng x88_1 → Hp g B s h H locs → lv_has ls 3 [(0, .ref (B + u0)), (1, .int (ii x88_1))] → j x88_1 h = some o → W p l e (rmn 0) s m args below meth c H locs 0 0 Q (F0 m 88 ls [])) ?_ (fun j88 hj88 hf => ?_)
          · intro x88_1 h H locs ls rx88_1 hp hl hf
            refine z_iinc cx (fun x5 => [(1, .int (ii x5)), (0, .ref (B + u0))]) dX12_agree_88 hl (k := 1) rfl (by decide) (fun _ => rfl) hf (fun x5 rx5 hf ls hl => ?_)
            refine lv_goto (tgt := 2) cx.1 cx.2.1 dX12_agree_91 (by decide) ?_
            exact ih x5 h _ _ ls rx5 hp (lv_sub hl [1, 0] rfl) hf
          refine z_icmp_eq cx rx3 rx4 (tgt := 88) dX12_agree_70 (by decide) hf (fun _ hf => ?_) (fun _ hf => ?_)
          · exact hj88 x50_1 h _ _ ls rx50_1 hp (lv_sub hl [0, 1] rfl) hf
          · refine lv_aload_n cx.1 cx.2.1 dX12_agree_73 rfl (lv_at hl 0 rfl) ?_
            refine z_iconst cx dX12_agree_74 ?_
            refine z_puti cx hp (T := TX12) tyX12 tyX12_ok nmX12 12 35 (by decide) rfl zin_12 (by decide) (by decide) ru0 rfl rfl rfl fl_X12_218 dX12_agree_75 hf (fun h H locs hp hf => ?_)
            refine lv_aload_n cx.1 cx.2.1 dX12_agree_78 rfl (lv_at hl 0 rfl) ?_
            refine lv_aload_n cx.1 cx.2.1 dX12_agree_79 rfl (lv_at hl 0 rfl) ?_
            refine z_gets cx hp (T := TX12) 12 23 (u0 + 17) rfl zin_12 (by decide) (by decide) ru0 rfl fl_X12_58 dX12_agree_80 ?_
            refine lv_iload_n cx.1 cx.2.1 dX12_agree_83 rfl (lv_at hl 1 rfl) ?_
            refine z_iald cx hp (zs_12_23 u0 (kt_lt ru0 (by decide)) ru0) rx50_1 dX12_agree_84 hf (fun x6 rx6 hf => ?_)
            refine z_puti cx hp (T := TX12) tyX12 tyX12_ok nmX12 12 36 rx6 rfl zin_12 (by decide) (by decide) ru0 rfl rfl rfl fl_X12_221 dX12_agree_85 hf (fun h H locs hp hf => ?_)
            exact hj88 x50_1 h _ _ ls rx50_1 hp (lv_sub hl [0, 1] rfl) hf
        exact wX12_agree_21 F cx u0 ru0 v1 rv1 j50 hj50 F 0 h _ _ ls (by decide) hp (lv_sub hl [1, 2, 0] rfl) hf
      · exact hk94  h _ _ ls  hp (lv_sub hl [] rfl) hf
    · exact hk94  h _ _ ls  hp (lv_sub hl [] rfl) hf
def fX12_agree (F : Nat) (a0 : Nat) (h : HF) : RO :=
  zjn (fun  (h : HF) => (
    some (0, h)
  )) fun j94 =>
  LX12_agree_2 F a0 j94 F 0 h
set_option maxHeartbeats 4000000 in
set_option maxRecDepth 100000 in
theorem mX12_agree (F : Nat) (l : Launch) (g : zG) (B : Nat) (h : HF) (a0 : Nat) (ra0 : kt a0 = 15) : CTv l g B yX12_agree cX12_agree 3 0 [.ref (B + a0)] h (fX12_agree F a0 h) := by
  refine z_enterV (by decide) rfl (Nat.le_of_ble_eq_true rfl) ?_
  intro p e s m args below meth c ls o Q cx hp hl hf hQ
  have hl : lv_has ls 3 [(0, .ref (B + a0))] := hl
  unfold fX12_agree at hf
  refine z_iconst cx dX12_agree_0 ?_
  refine lv_istore_n (lv' := [(1, .int (ii 0)), (0, .ref (B + a0))]) cx.1 cx.2.1 dX12_agree_1 rfl hl (by decide) rfl (fun ls hl => ?_)
  refine z_jn hf (fun j => ∀  (h : HF) (H : Heap) (locs : List Loc) (ls : Array Slot), Hp g B s h H locs → lv_has ls 3 [] → j  h = some o → W p l e (rmn 0) s m args below meth c H locs 0 0 Q (F0 m 94 ls [])) ?_ (fun j94 hj94 hf => ?_)
  · intro  h H locs ls  hp hl hf
    rw [hQ]; exact z_vret cx hp dX12_agree_94 hf
  exact wX12_agree_2 F cx a0 ra0 j94 hj94 F 0 h _ _ ls (by decide) hp (lv_sub hl [1, 0] rfl) hf
theorem dX12_laws_0 : decode cX12_laws 0 = .ok (.aload_n 0, 1) := by decide +kernel
theorem dX12_laws_1 : decode cX12_laws 1 = .ok (.iconst 0, 1) := by decide +kernel
theorem dX12_laws_2 : decode cX12_laws 2 = .ok (.putfield 115, 3) := by decide +kernel
theorem dX12_laws_5 : decode cX12_laws 5 = .ok (.aload_n 0, 1) := by decide +kernel
theorem dX12_laws_6 : decode cX12_laws 6 = .ok (.aload_n 0, 1) := by decide +kernel
theorem dX12_laws_7 : decode cX12_laws 7 = .ok (.getfield 119, 3) := by decide +kernel
theorem dX12_laws_10 : decode cX12_laws 10 = .ok (.putfield 209, 3) := by decide +kernel
theorem dX12_laws_13 : decode cX12_laws 13 = .ok (.aload_n 0, 1) := by decide +kernel
theorem dX12_laws_14 : decode cX12_laws 14 = .ok (.iconst 0, 1) := by decide +kernel
theorem dX12_laws_15 : decode cX12_laws 15 = .ok (.putfield 119, 3) := by decide +kernel
theorem dX12_laws_18 : decode cX12_laws 18 = .ok (.aload_n 0, 1) := by decide +kernel
theorem dX12_laws_19 : decode cX12_laws 19 = .ok (.iload_n 1, 1) := by decide +kernel
theorem dX12_laws_20 : decode cX12_laws 20 = .ok (.invokevirtual 247, 3) := by decide +kernel
theorem dX12_laws_23 : decode cX12_laws 23 = .ok (.ifCond .ne 6, 3) := by decide +kernel
theorem dX12_laws_26 : decode cX12_laws 26 = .ok (.bipush (-3), 2) := by decide +kernel
theorem dX12_laws_28 : decode cX12_laws 28 = .ok (.ireturn, 1) := by decide +kernel
theorem dX12_laws_29 : decode cX12_laws 29 = .ok (.aload_n 0, 1) := by decide +kernel
theorem dX12_laws_30 : decode cX12_laws 30 = .ok (.iconst 0, 1) := by decide +kernel
theorem dX12_laws_31 : decode cX12_laws 31 = .ok (.putfield 206, 3) := by decide +kernel
theorem dX12_laws_34 : decode cX12_laws 34 = .ok (.aload_n 0, 1) := by decide +kernel
theorem dX12_laws_35 : decode cX12_laws 35 = .ok (.iconst 0, 1) := by decide +kernel
theorem dX12_laws_36 : decode cX12_laws 36 = .ok (.putfield 218, 3) := by decide +kernel
theorem dX12_laws_39 : decode cX12_laws 39 = .ok (.aload_n 0, 1) := by decide +kernel
theorem dX12_laws_40 : decode cX12_laws 40 = .ok (.getfield 61, 3) := by decide +kernel
theorem dX12_laws_43 : decode cX12_laws 43 = .ok (.iconst 4, 1) := by decide +kernel
theorem dX12_laws_44 : decode cX12_laws 44 = .ok (.iconst 0, 1) := by decide +kernel
theorem dX12_laws_45 : decode cX12_laws 45 = .ok (.iastore, 1) := by decide +kernel
theorem dX12_laws_46 : decode cX12_laws 46 = .ok (.aload_n 0, 1) := by decide +kernel
theorem dX12_laws_47 : decode cX12_laws 47 = .ok (.getfield 70, 3) := by decide +kernel
theorem dX12_laws_50 : decode cX12_laws 50 = .ok (.iconst 4, 1) := by decide +kernel
theorem dX12_laws_51 : decode cX12_laws 51 = .ok (.iconst 0, 1) := by decide +kernel
theorem dX12_laws_52 : decode cX12_laws 52 = .ok (.iastore, 1) := by decide +kernel
theorem dX12_laws_53 : decode cX12_laws 53 = .ok (.aload_n 0, 1) := by decide +kernel
theorem dX12_laws_54 : decode cX12_laws 54 = .ok (.getfield 79, 3) := by decide +kernel
theorem dX12_laws_57 : decode cX12_laws 57 = .ok (.iconst 4, 1) := by decide +kernel
theorem dX12_laws_58 : decode cX12_laws 58 = .ok (.iconst 0, 1) := by decide +kernel
theorem dX12_laws_59 : decode cX12_laws 59 = .ok (.iastore, 1) := by decide +kernel
theorem dX12_laws_60 : decode cX12_laws 60 = .ok (.aload_n 0, 1) := by decide +kernel
theorem dX12_laws_61 : decode cX12_laws 61 = .ok (.invokevirtual 224, 3) := by decide +kernel
theorem dX12_laws_64 : decode cX12_laws 64 = .ok (.aload_n 0, 1) := by decide +kernel
theorem dX12_laws_65 : decode cX12_laws 65 = .ok (.invokevirtual 250, 3) := by decide +kernel
theorem dX12_laws_68 : decode cX12_laws 68 = .ok (.aload_n 0, 1) := by decide +kernel
theorem dX12_laws_69 : decode cX12_laws 69 = .ok (.bipush 59, 2) := by decide +kernel
theorem dX12_laws_71 : decode cX12_laws 71 = .ok (.invokevirtual 227, 3) := by decide +kernel
theorem dX12_laws_74 : decode cX12_laws 74 = .ok (.ifCond .eq 10, 3) := by decide +kernel
theorem dX12_laws_77 : decode cX12_laws 77 = .ok (.aload_n 0, 1) := by decide +kernel
theorem dX12_laws_78 : decode cX12_laws 78 = .ok (.invokevirtual 250, 3) := by decide +kernel
theorem dX12_laws_81 : decode cX12_laws 81 = .ok (.goto (-13), 3) := by decide +kernel
theorem dX12_laws_84 : decode cX12_laws 84 = .ok (.aload_n 0, 1) := by decide +kernel
theorem dX12_laws_85 : decode cX12_laws 85 = .ok (.getfield 218, 3) := by decide +kernel
theorem dX12_laws_88 : decode cX12_laws 88 = .ok (.ifCond .ne 16, 3) := by decide +kernel
theorem dX12_laws_91 : decode cX12_laws 91 = .ok (.aload_n 0, 1) := by decide +kernel
theorem dX12_laws_92 : decode cX12_laws 92 = .ok (.getfield 215, 3) := by decide +kernel
theorem dX12_laws_95 : decode cX12_laws 95 = .ok (.iconst (-1), 1) := by decide +kernel
theorem dX12_laws_96 : decode cX12_laws 96 = .ok (.if_icmp .eq 8, 3) := by decide +kernel
theorem dX12_laws_99 : decode cX12_laws 99 = .ok (.aload_n 0, 1) := by decide +kernel
theorem dX12_laws_100 : decode cX12_laws 100 = .ok (.iconst 1, 1) := by decide +kernel
theorem dX12_laws_101 : decode cX12_laws 101 = .ok (.invokevirtual 230, 3) := by decide +kernel
theorem dX12_laws_104 : decode cX12_laws 104 = .ok (.aload_n 0, 1) := by decide +kernel
theorem dX12_laws_105 : decode cX12_laws 105 = .ok (.invokevirtual 253, 3) := by decide +kernel
theorem dX12_laws_108 : decode cX12_laws 108 = .ok (.aload_n 0, 1) := by decide +kernel
theorem dX12_laws_109 : decode cX12_laws 109 = .ok (.aload_n 0, 1) := by decide +kernel
theorem dX12_laws_110 : decode cX12_laws 110 = .ok (.getfield 218, 3) := by decide +kernel
theorem dX12_laws_113 : decode cX12_laws 113 = .ok (.putfield 190, 3) := by decide +kernel
theorem dX12_laws_116 : decode cX12_laws 116 = .ok (.aload_n 0, 1) := by decide +kernel
theorem dX12_laws_117 : decode cX12_laws 117 = .ok (.getfield 218, 3) := by decide +kernel
theorem dX12_laws_120 : decode cX12_laws 120 = .ok (.ifCond .eq 11, 3) := by decide +kernel
theorem dX12_laws_123 : decode cX12_laws 123 = .ok (.bipush (-100), 2) := by decide +kernel
theorem dX12_laws_125 : decode cX12_laws 125 = .ok (.aload_n 0, 1) := by decide +kernel
theorem dX12_laws_126 : decode cX12_laws 126 = .ok (.getfield 221, 3) := by decide +kernel
theorem dX12_laws_129 : decode cX12_laws 129 = .ok (.isub, 1) := by decide +kernel
theorem dX12_laws_130 : decode cX12_laws 130 = .ok (.ireturn, 1) := by decide +kernel
theorem dX12_laws_131 : decode cX12_laws 131 = .ok (.aload_n 0, 1) := by decide +kernel
theorem dX12_laws_132 : decode cX12_laws 132 = .ok (.getfield 61, 3) := by decide +kernel
theorem dX12_laws_135 : decode cX12_laws 135 = .ok (.iload_n 1, 1) := by decide +kernel
theorem dX12_laws_136 : decode cX12_laws 136 = .ok (.aload_n 0, 1) := by decide +kernel
theorem dX12_laws_137 : decode cX12_laws 137 = .ok (.getfield 61, 3) := by decide +kernel
theorem dX12_laws_140 : decode cX12_laws 140 = .ok (.iconst 4, 1) := by decide +kernel
theorem dX12_laws_141 : decode cX12_laws 141 = .ok (.iaload, 1) := by decide +kernel
theorem dX12_laws_142 : decode cX12_laws 142 = .ok (.iastore, 1) := by decide +kernel
theorem dX12_laws_143 : decode cX12_laws 143 = .ok (.aload_n 0, 1) := by decide +kernel
theorem dX12_laws_144 : decode cX12_laws 144 = .ok (.getfield 70, 3) := by decide +kernel
theorem dX12_laws_147 : decode cX12_laws 147 = .ok (.iload_n 1, 1) := by decide +kernel
theorem dX12_laws_148 : decode cX12_laws 148 = .ok (.aload_n 0, 1) := by decide +kernel
theorem dX12_laws_149 : decode cX12_laws 149 = .ok (.getfield 70, 3) := by decide +kernel
theorem dX12_laws_152 : decode cX12_laws 152 = .ok (.iconst 4, 1) := by decide +kernel
theorem dX12_laws_153 : decode cX12_laws 153 = .ok (.iaload, 1) := by decide +kernel
theorem dX12_laws_154 : decode cX12_laws 154 = .ok (.iastore, 1) := by decide +kernel
theorem dX12_laws_155 : decode cX12_laws 155 = .ok (.aload_n 0, 1) := by decide +kernel
theorem dX12_laws_156 : decode cX12_laws 156 = .ok (.getfield 79, 3) := by decide +kernel
theorem dX12_laws_159 : decode cX12_laws 159 = .ok (.iload_n 1, 1) := by decide +kernel
theorem dX12_laws_160 : decode cX12_laws 160 = .ok (.aload_n 0, 1) := by decide +kernel
theorem dX12_laws_161 : decode cX12_laws 161 = .ok (.getfield 79, 3) := by decide +kernel
theorem dX12_laws_164 : decode cX12_laws 164 = .ok (.iconst 4, 1) := by decide +kernel
theorem dX12_laws_165 : decode cX12_laws 165 = .ok (.iaload, 1) := by decide +kernel
theorem dX12_laws_166 : decode cX12_laws 166 = .ok (.iastore, 1) := by decide +kernel
theorem dX12_laws_167 : decode cX12_laws 167 = .ok (.iconst 0, 1) := by decide +kernel
theorem dX12_laws_168 : decode cX12_laws 168 = .ok (.istore_n 2, 1) := by decide +kernel
theorem dX12_laws_169 : decode cX12_laws 169 = .ok (.iload_n 2, 1) := by decide +kernel
theorem dX12_laws_170 : decode cX12_laws 170 = .ok (.bipush 80, 2) := by decide +kernel
theorem dX12_laws_172 : decode cX12_laws 172 = .ok (.if_icmp .ge 93, 3) := by decide +kernel
theorem dX12_laws_175 : decode cX12_laws 175 = .ok (.aload_n 0, 1) := by decide +kernel
theorem dX12_laws_176 : decode cX12_laws 176 = .ok (.getfield 46, 3) := by decide +kernel
theorem dX12_laws_179 : decode cX12_laws 179 = .ok (.bipush 80, 2) := by decide +kernel
theorem dX12_laws_181 : decode cX12_laws 181 = .ok (.iload_n 1, 1) := by decide +kernel
theorem dX12_laws_182 : decode cX12_laws 182 = .ok (.imul, 1) := by decide +kernel
theorem dX12_laws_183 : decode cX12_laws 183 = .ok (.iload_n 2, 1) := by decide +kernel
theorem dX12_laws_184 : decode cX12_laws 184 = .ok (.iadd, 1) := by decide +kernel
theorem dX12_laws_185 : decode cX12_laws 185 = .ok (.aload_n 0, 1) := by decide +kernel
theorem dX12_laws_186 : decode cX12_laws 186 = .ok (.getfield 46, 3) := by decide +kernel
theorem dX12_laws_189 : decode cX12_laws 189 = .ok (.sipush 320, 3) := by decide +kernel
theorem dX12_laws_192 : decode cX12_laws 192 = .ok (.iload_n 2, 1) := by decide +kernel
theorem dX12_laws_193 : decode cX12_laws 193 = .ok (.iadd, 1) := by decide +kernel
theorem dX12_laws_194 : decode cX12_laws 194 = .ok (.iaload, 1) := by decide +kernel
theorem dX12_laws_195 : decode cX12_laws 195 = .ok (.iastore, 1) := by decide +kernel
theorem dX12_laws_196 : decode cX12_laws 196 = .ok (.aload_n 0, 1) := by decide +kernel
theorem dX12_laws_197 : decode cX12_laws 197 = .ok (.getfield 49, 3) := by decide +kernel
theorem dX12_laws_200 : decode cX12_laws 200 = .ok (.bipush 80, 2) := by decide +kernel
theorem dX12_laws_202 : decode cX12_laws 202 = .ok (.iload_n 1, 1) := by decide +kernel
theorem dX12_laws_203 : decode cX12_laws 203 = .ok (.imul, 1) := by decide +kernel
theorem dX12_laws_204 : decode cX12_laws 204 = .ok (.iload_n 2, 1) := by decide +kernel
theorem dX12_laws_205 : decode cX12_laws 205 = .ok (.iadd, 1) := by decide +kernel
theorem dX12_laws_206 : decode cX12_laws 206 = .ok (.aload_n 0, 1) := by decide +kernel
theorem dX12_laws_207 : decode cX12_laws 207 = .ok (.getfield 49, 3) := by decide +kernel
theorem dX12_laws_210 : decode cX12_laws 210 = .ok (.sipush 320, 3) := by decide +kernel
theorem dX12_laws_213 : decode cX12_laws 213 = .ok (.iload_n 2, 1) := by decide +kernel
theorem dX12_laws_214 : decode cX12_laws 214 = .ok (.iadd, 1) := by decide +kernel
theorem dX12_laws_215 : decode cX12_laws 215 = .ok (.iaload, 1) := by decide +kernel
theorem dX12_laws_216 : decode cX12_laws 216 = .ok (.iastore, 1) := by decide +kernel
theorem dX12_laws_217 : decode cX12_laws 217 = .ok (.aload_n 0, 1) := by decide +kernel
theorem dX12_laws_218 : decode cX12_laws 218 = .ok (.getfield 52, 3) := by decide +kernel
theorem dX12_laws_221 : decode cX12_laws 221 = .ok (.bipush 80, 2) := by decide +kernel
theorem dX12_laws_223 : decode cX12_laws 223 = .ok (.iload_n 1, 1) := by decide +kernel
theorem dX12_laws_224 : decode cX12_laws 224 = .ok (.imul, 1) := by decide +kernel
theorem dX12_laws_225 : decode cX12_laws 225 = .ok (.iload_n 2, 1) := by decide +kernel
theorem dX12_laws_226 : decode cX12_laws 226 = .ok (.iadd, 1) := by decide +kernel
theorem dX12_laws_227 : decode cX12_laws 227 = .ok (.aload_n 0, 1) := by decide +kernel
theorem dX12_laws_228 : decode cX12_laws 228 = .ok (.getfield 52, 3) := by decide +kernel
theorem dX12_laws_231 : decode cX12_laws 231 = .ok (.sipush 320, 3) := by decide +kernel
theorem dX12_laws_234 : decode cX12_laws 234 = .ok (.iload_n 2, 1) := by decide +kernel
theorem dX12_laws_235 : decode cX12_laws 235 = .ok (.iadd, 1) := by decide +kernel
theorem dX12_laws_236 : decode cX12_laws 236 = .ok (.iaload, 1) := by decide +kernel
theorem dX12_laws_237 : decode cX12_laws 237 = .ok (.iastore, 1) := by decide +kernel
theorem dX12_laws_238 : decode cX12_laws 238 = .ok (.aload_n 0, 1) := by decide +kernel
theorem dX12_laws_239 : decode cX12_laws 239 = .ok (.getfield 55, 3) := by decide +kernel
theorem dX12_laws_242 : decode cX12_laws 242 = .ok (.bipush 80, 2) := by decide +kernel
theorem dX12_laws_244 : decode cX12_laws 244 = .ok (.iload_n 1, 1) := by decide +kernel
theorem dX12_laws_245 : decode cX12_laws 245 = .ok (.imul, 1) := by decide +kernel
theorem dX12_laws_246 : decode cX12_laws 246 = .ok (.iload_n 2, 1) := by decide +kernel
theorem dX12_laws_247 : decode cX12_laws 247 = .ok (.iadd, 1) := by decide +kernel
theorem dX12_laws_248 : decode cX12_laws 248 = .ok (.aload_n 0, 1) := by decide +kernel
theorem dX12_laws_249 : decode cX12_laws 249 = .ok (.getfield 55, 3) := by decide +kernel
theorem dX12_laws_252 : decode cX12_laws 252 = .ok (.sipush 320, 3) := by decide +kernel
theorem dX12_laws_255 : decode cX12_laws 255 = .ok (.iload_n 2, 1) := by decide +kernel
theorem dX12_laws_256 : decode cX12_laws 256 = .ok (.iadd, 1) := by decide +kernel
theorem dX12_laws_257 : decode cX12_laws 257 = .ok (.iaload, 1) := by decide +kernel
theorem dX12_laws_258 : decode cX12_laws 258 = .ok (.iastore, 1) := by decide +kernel
theorem dX12_laws_259 : decode cX12_laws 259 = .ok (.iinc 2 1, 3) := by decide +kernel
theorem dX12_laws_262 : decode cX12_laws 262 = .ok (.goto (-93), 3) := by decide +kernel
theorem dX12_laws_265 : decode cX12_laws 265 = .ok (.iconst 0, 1) := by decide +kernel
theorem dX12_laws_266 : decode cX12_laws 266 = .ok (.istore_n 2, 1) := by decide +kernel
theorem dX12_laws_267 : decode cX12_laws 267 = .ok (.iload_n 2, 1) := by decide +kernel
theorem dX12_laws_268 : decode cX12_laws 268 = .ok (.bipush 40, 2) := by decide +kernel
theorem dX12_laws_270 : decode cX12_laws 270 = .ok (.if_icmp .ge 51, 3) := by decide +kernel
theorem dX12_laws_273 : decode cX12_laws 273 = .ok (.aload_n 0, 1) := by decide +kernel
theorem dX12_laws_274 : decode cX12_laws 274 = .ok (.getfield 64, 3) := by decide +kernel
theorem dX12_laws_277 : decode cX12_laws 277 = .ok (.bipush 40, 2) := by decide +kernel
theorem dX12_laws_279 : decode cX12_laws 279 = .ok (.iload_n 1, 1) := by decide +kernel
theorem dX12_laws_280 : decode cX12_laws 280 = .ok (.imul, 1) := by decide +kernel
theorem dX12_laws_281 : decode cX12_laws 281 = .ok (.iload_n 2, 1) := by decide +kernel
theorem dX12_laws_282 : decode cX12_laws 282 = .ok (.iadd, 1) := by decide +kernel
theorem dX12_laws_283 : decode cX12_laws 283 = .ok (.aload_n 0, 1) := by decide +kernel
theorem dX12_laws_284 : decode cX12_laws 284 = .ok (.getfield 64, 3) := by decide +kernel
theorem dX12_laws_287 : decode cX12_laws 287 = .ok (.sipush 160, 3) := by decide +kernel
theorem dX12_laws_290 : decode cX12_laws 290 = .ok (.iload_n 2, 1) := by decide +kernel
theorem dX12_laws_291 : decode cX12_laws 291 = .ok (.iadd, 1) := by decide +kernel
theorem dX12_laws_292 : decode cX12_laws 292 = .ok (.iaload, 1) := by decide +kernel
theorem dX12_laws_293 : decode cX12_laws 293 = .ok (.iastore, 1) := by decide +kernel
theorem dX12_laws_294 : decode cX12_laws 294 = .ok (.aload_n 0, 1) := by decide +kernel
theorem dX12_laws_295 : decode cX12_laws 295 = .ok (.getfield 67, 3) := by decide +kernel
theorem dX12_laws_298 : decode cX12_laws 298 = .ok (.bipush 40, 2) := by decide +kernel
theorem dX12_laws_300 : decode cX12_laws 300 = .ok (.iload_n 1, 1) := by decide +kernel
theorem dX12_laws_301 : decode cX12_laws 301 = .ok (.imul, 1) := by decide +kernel
theorem dX12_laws_302 : decode cX12_laws 302 = .ok (.iload_n 2, 1) := by decide +kernel
theorem dX12_laws_303 : decode cX12_laws 303 = .ok (.iadd, 1) := by decide +kernel
theorem dX12_laws_304 : decode cX12_laws 304 = .ok (.aload_n 0, 1) := by decide +kernel
theorem dX12_laws_305 : decode cX12_laws 305 = .ok (.getfield 67, 3) := by decide +kernel
theorem dX12_laws_308 : decode cX12_laws 308 = .ok (.sipush 160, 3) := by decide +kernel
theorem dX12_laws_311 : decode cX12_laws 311 = .ok (.iload_n 2, 1) := by decide +kernel
theorem dX12_laws_312 : decode cX12_laws 312 = .ok (.iadd, 1) := by decide +kernel
theorem dX12_laws_313 : decode cX12_laws 313 = .ok (.iaload, 1) := by decide +kernel
theorem dX12_laws_314 : decode cX12_laws 314 = .ok (.iastore, 1) := by decide +kernel
theorem dX12_laws_315 : decode cX12_laws 315 = .ok (.iinc 2 1, 3) := by decide +kernel
theorem dX12_laws_318 : decode cX12_laws 318 = .ok (.goto (-51), 3) := by decide +kernel
theorem dX12_laws_321 : decode cX12_laws 321 = .ok (.iconst 0, 1) := by decide +kernel
theorem dX12_laws_322 : decode cX12_laws 322 = .ok (.istore_n 2, 1) := by decide +kernel
theorem dX12_laws_323 : decode cX12_laws 323 = .ok (.iload_n 2, 1) := by decide +kernel
theorem dX12_laws_324 : decode cX12_laws 324 = .ok (.bipush 7, 2) := by decide +kernel
theorem dX12_laws_326 : decode cX12_laws 326 = .ok (.if_icmp .ge 49, 3) := by decide +kernel
theorem dX12_laws_329 : decode cX12_laws 329 = .ok (.aload_n 0, 1) := by decide +kernel
theorem dX12_laws_330 : decode cX12_laws 330 = .ok (.getfield 73, 3) := by decide +kernel
theorem dX12_laws_333 : decode cX12_laws 333 = .ok (.bipush 7, 2) := by decide +kernel
theorem dX12_laws_335 : decode cX12_laws 335 = .ok (.iload_n 1, 1) := by decide +kernel
theorem dX12_laws_336 : decode cX12_laws 336 = .ok (.imul, 1) := by decide +kernel
theorem dX12_laws_337 : decode cX12_laws 337 = .ok (.iload_n 2, 1) := by decide +kernel
theorem dX12_laws_338 : decode cX12_laws 338 = .ok (.iadd, 1) := by decide +kernel
theorem dX12_laws_339 : decode cX12_laws 339 = .ok (.aload_n 0, 1) := by decide +kernel
theorem dX12_laws_340 : decode cX12_laws 340 = .ok (.getfield 73, 3) := by decide +kernel
theorem dX12_laws_343 : decode cX12_laws 343 = .ok (.bipush 28, 2) := by decide +kernel
theorem dX12_laws_345 : decode cX12_laws 345 = .ok (.iload_n 2, 1) := by decide +kernel
theorem dX12_laws_346 : decode cX12_laws 346 = .ok (.iadd, 1) := by decide +kernel
theorem dX12_laws_347 : decode cX12_laws 347 = .ok (.iaload, 1) := by decide +kernel
theorem dX12_laws_348 : decode cX12_laws 348 = .ok (.iastore, 1) := by decide +kernel
theorem dX12_laws_349 : decode cX12_laws 349 = .ok (.aload_n 0, 1) := by decide +kernel
theorem dX12_laws_350 : decode cX12_laws 350 = .ok (.getfield 76, 3) := by decide +kernel
theorem dX12_laws_353 : decode cX12_laws 353 = .ok (.bipush 7, 2) := by decide +kernel
theorem dX12_laws_355 : decode cX12_laws 355 = .ok (.iload_n 1, 1) := by decide +kernel
theorem dX12_laws_356 : decode cX12_laws 356 = .ok (.imul, 1) := by decide +kernel
theorem dX12_laws_357 : decode cX12_laws 357 = .ok (.iload_n 2, 1) := by decide +kernel
theorem dX12_laws_358 : decode cX12_laws 358 = .ok (.iadd, 1) := by decide +kernel
theorem dX12_laws_359 : decode cX12_laws 359 = .ok (.aload_n 0, 1) := by decide +kernel
theorem dX12_laws_360 : decode cX12_laws 360 = .ok (.getfield 76, 3) := by decide +kernel
theorem dX12_laws_363 : decode cX12_laws 363 = .ok (.bipush 28, 2) := by decide +kernel
theorem dX12_laws_365 : decode cX12_laws 365 = .ok (.iload_n 2, 1) := by decide +kernel
theorem dX12_laws_366 : decode cX12_laws 366 = .ok (.iadd, 1) := by decide +kernel
theorem dX12_laws_367 : decode cX12_laws 367 = .ok (.iaload, 1) := by decide +kernel
theorem dX12_laws_368 : decode cX12_laws 368 = .ok (.iastore, 1) := by decide +kernel
theorem dX12_laws_369 : decode cX12_laws 369 = .ok (.iinc 2 1, 3) := by decide +kernel
theorem dX12_laws_372 : decode cX12_laws 372 = .ok (.goto (-49), 3) := by decide +kernel
theorem dX12_laws_375 : decode cX12_laws 375 = .ok (.aload_n 0, 1) := by decide +kernel
theorem dX12_laws_376 : decode cX12_laws 376 = .ok (.getfield 79, 3) := by decide +kernel
theorem dX12_laws_379 : decode cX12_laws 379 = .ok (.iload_n 1, 1) := by decide +kernel
theorem dX12_laws_380 : decode cX12_laws 380 = .ok (.iaload, 1) := by decide +kernel
theorem dX12_laws_381 : decode cX12_laws 381 = .ok (.ireturn, 1) := by decide +kernel
def LX12_laws_323 (F : Nat) (u0 : Nat) (u1 : Int) (k375 : HF → RO) : Nat → Int → HF → RO
  | 0, _, _ => none
  | n + 1, v2, h =>
    if v2 < 7 then (
      zrd h (u0 + 22) (wr (28 + v2)) fun x13 =>
      zwr h (u0 + 22) (wr ((wr (7 * u1)) + v2)) x13 fun h =>
      zrd h (u0 + 23) (wr (28 + v2)) fun x14 =>
      zwr h (u0 + 23) (wr ((wr (7 * u1)) + v2)) x14 fun h =>
      zlet (wr (v2 + 1)) fun x15 =>
      LX12_laws_323 F u0 u1 k375 n x15 h
    ) else (
      k375  h
    )
set_option maxHeartbeats 4000000 in
set_option maxRecDepth 100000 in
theorem wX12_laws_323 {p : Program} {l : Launch} {e : Env} {s : State} {m : MethodId} {args : Array Value} {below : List Frame} {meth : Method} {c : Code} {Q : State → Prop} {g : zG} {B : Nat} {o : Int × HF} (F : Nat) (cx : Cx p s m args meth c cX12_laws 3 RX12 (some .int) g B) (u0 : Nat) (ru0 : kt u0 = 15) (u1 : Int) (ru1 : rng u1) (k375 : HF → RO) (hk375 : ∀  (h : HF) (H : Heap) (locs : List Loc) (ls : Array Slot), Hp g B s h H locs → lv_has ls 3 [(0, .ref (B + u0)), (1, .int (ii u1))] → k375  h = some o → W p l e (rmn 16) s m args below meth c H locs 0 0 Q (F0 m 375 ls [])) : ∀ (n : Nat) (v2 : Int) (h : HF) (H : Heap) (locs : List Loc) (ls : Array Slot), rng v2 → Hp g B s h H locs → lv_has ls 3 [(0, .ref (B + u0)), (1, .int (ii u1)), (2, .int (ii v2))] → LX12_laws_323 F u0 u1 k375 n v2 h = some o → W p l e (rmn 16) s m args below meth c H locs 0 0 Q (F0 m 323 ls []) := by
  intro n
  induction n with
  | zero =>
    intro v2 h H locs ls rv2 hp hl hf
    cases hf
  | succ n ih =>
    intro v2 h H locs ls rv2 hp hl hf
    rw [LX12_laws_323] at hf
    refine lv_iload_n cx.1 cx.2.1 dX12_laws_323 rfl (lv_at hl 2 rfl) ?_
    refine z_bipush cx (by decide) dX12_laws_324 ?_
    refine z_icmp_ge cx rv2 (by decide) (tgt := 375) dX12_laws_326 (by decide) hf (fun _ hf => ?_) (fun _ hf => ?_)
    · refine lv_aload_n cx.1 cx.2.1 dX12_laws_329 rfl (lv_at hl 0 rfl) ?_
      refine z_gets cx hp (T := TX12) 12 28 (u0 + 22) rfl zin_12 (by decide) (by decide) ru0 rfl fl_X12_73 dX12_laws_330 ?_
      refine z_bipush cx (by decide) dX12_laws_333 ?_
      refine lv_iload_n cx.1 cx.2.1 dX12_laws_335 rfl (lv_at hl 1 rfl) ?_
      refine z_imul cx dX12_laws_336 ?_
      refine lv_iload_n cx.1 cx.2.1 dX12_laws_337 rfl (lv_at hl 2 rfl) ?_
      refine z_iadd cx dX12_laws_338 ?_
      refine lv_aload_n cx.1 cx.2.1 dX12_laws_339 rfl (lv_at hl 0 rfl) ?_
      refine z_gets cx hp (T := TX12) 12 28 (u0 + 22) rfl zin_12 (by decide) (by decide) ru0 rfl fl_X12_73 dX12_laws_340 ?_
      refine z_bipush cx (by decide) dX12_laws_343 ?_
      refine lv_iload_n cx.1 cx.2.1 dX12_laws_345 rfl (lv_at hl 2 rfl) ?_
      refine z_iadd cx dX12_laws_346 ?_
      refine z_iald cx hp (zs_12_28 u0 (kt_lt ru0 (by decide)) ru0) (rng_wr _) dX12_laws_347 hf (fun x13 rx13 hf => ?_)
      refine z_iast cx hp (zs_12_28 u0 (kt_lt ru0 (by decide)) ru0) (rng_wr _) rx13 dX12_laws_348 hf (fun h H locs hp hf => ?_)
      refine lv_aload_n cx.1 cx.2.1 dX12_laws_349 rfl (lv_at hl 0 rfl) ?_
      refine z_gets cx hp (T := TX12) 12 29 (u0 + 23) rfl zin_12 (by decide) (by decide) ru0 rfl fl_X12_76 dX12_laws_350 ?_
      refine z_bipush cx (by decide) dX12_laws_353 ?_
      refine lv_iload_n cx.1 cx.2.1 dX12_laws_355 rfl (lv_at hl 1 rfl) ?_
      refine z_imul cx dX12_laws_356 ?_
      refine lv_iload_n cx.1 cx.2.1 dX12_laws_357 rfl (lv_at hl 2 rfl) ?_
      refine z_iadd cx dX12_laws_358 ?_
      refine lv_aload_n cx.1 cx.2.1 dX12_laws_359 rfl (lv_at hl 0 rfl) ?_
      refine z_gets cx hp (T := TX12) 12 29 (u0 + 23) rfl zin_12 (by decide) (by decide) ru0 rfl fl_X12_76 dX12_laws_360 ?_
      refine z_bipush cx (by decide) dX12_laws_363 ?_
      refine lv_iload_n cx.1 cx.2.1 dX12_laws_365 rfl (lv_at hl 2 rfl) ?_
      refine z_iadd cx dX12_laws_366 ?_
      refine z_iald cx hp (zs_12_29 u0 (kt_lt ru0 (by decide)) ru0) (rng_wr _) dX12_laws_367 hf (fun x14 rx14 hf => ?_)
      refine z_iast cx hp (zs_12_29 u0 (kt_lt ru0 (by decide)) ru0) (rng_wr _) rx14 dX12_laws_368 hf (fun h H locs hp hf => ?_)
      refine z_iinc cx (fun x15 => [(2, .int (ii x15)), (0, .ref (B + u0)), (1, .int (ii u1))]) dX12_laws_369 hl (k := 2) rfl (by decide) (fun _ => rfl) hf (fun x15 rx15 hf ls hl => ?_)
      refine lv_goto (tgt := 323) cx.1 cx.2.1 dX12_laws_372 (by decide) ?_
      exact ih x15 h _ _ ls rx15 hp (lv_sub hl [1, 2, 0] rfl) hf
    · exact hk375  h _ _ ls  hp (lv_sub hl [0, 1] rfl) hf
def LX12_laws_267 (F : Nat) (u0 : Nat) (u1 : Int) (k321 : HF → RO) : Nat → Int → HF → RO
  | 0, _, _ => none
  | n + 1, v2, h =>
    if v2 < 40 then (
      zrd h (u0 + 19) (wr (160 + v2)) fun x16 =>
      zwr h (u0 + 19) (wr ((wr (40 * u1)) + v2)) x16 fun h =>
      zrd h (u0 + 20) (wr (160 + v2)) fun x17 =>
      zwr h (u0 + 20) (wr ((wr (40 * u1)) + v2)) x17 fun h =>
      zlet (wr (v2 + 1)) fun x18 =>
      LX12_laws_267 F u0 u1 k321 n x18 h
    ) else (
      k321  h
    )
set_option maxHeartbeats 4000000 in
set_option maxRecDepth 100000 in
theorem wX12_laws_267 {p : Program} {l : Launch} {e : Env} {s : State} {m : MethodId} {args : Array Value} {below : List Frame} {meth : Method} {c : Code} {Q : State → Prop} {g : zG} {B : Nat} {o : Int × HF} (F : Nat) (cx : Cx p s m args meth c cX12_laws 3 RX12 (some .int) g B) (u0 : Nat) (ru0 : kt u0 = 15) (u1 : Int) (ru1 : rng u1) (k321 : HF → RO) (hk321 : ∀  (h : HF) (H : Heap) (locs : List Loc) (ls : Array Slot), Hp g B s h H locs → lv_has ls 3 [(0, .ref (B + u0)), (1, .int (ii u1))] → k321  h = some o → W p l e (rmn 16) s m args below meth c H locs 0 0 Q (F0 m 321 ls [])) : ∀ (n : Nat) (v2 : Int) (h : HF) (H : Heap) (locs : List Loc) (ls : Array Slot), rng v2 → Hp g B s h H locs → lv_has ls 3 [(0, .ref (B + u0)), (1, .int (ii u1)), (2, .int (ii v2))] → LX12_laws_267 F u0 u1 k321 n v2 h = some o → W p l e (rmn 16) s m args below meth c H locs 0 0 Q (F0 m 267 ls []) := by
  intro n
  induction n with
  | zero =>
    intro v2 h H locs ls rv2 hp hl hf
    cases hf
  | succ n ih =>
    intro v2 h H locs ls rv2 hp hl hf
    rw [LX12_laws_267] at hf
    refine lv_iload_n cx.1 cx.2.1 dX12_laws_267 rfl (lv_at hl 2 rfl) ?_
    refine z_bipush cx (by decide) dX12_laws_268 ?_
    refine z_icmp_ge cx rv2 (by decide) (tgt := 321) dX12_laws_270 (by decide) hf (fun _ hf => ?_) (fun _ hf => ?_)
    · refine lv_aload_n cx.1 cx.2.1 dX12_laws_273 rfl (lv_at hl 0 rfl) ?_
      refine z_gets cx hp (T := TX12) 12 25 (u0 + 19) rfl zin_12 (by decide) (by decide) ru0 rfl fl_X12_64 dX12_laws_274 ?_
      refine z_bipush cx (by decide) dX12_laws_277 ?_
      refine lv_iload_n cx.1 cx.2.1 dX12_laws_279 rfl (lv_at hl 1 rfl) ?_
      refine z_imul cx dX12_laws_280 ?_
      refine lv_iload_n cx.1 cx.2.1 dX12_laws_281 rfl (lv_at hl 2 rfl) ?_
      refine z_iadd cx dX12_laws_282 ?_
      refine lv_aload_n cx.1 cx.2.1 dX12_laws_283 rfl (lv_at hl 0 rfl) ?_
      refine z_gets cx hp (T := TX12) 12 25 (u0 + 19) rfl zin_12 (by decide) (by decide) ru0 rfl fl_X12_64 dX12_laws_284 ?_
      refine z_sipush cx (by decide) dX12_laws_287 ?_
      refine lv_iload_n cx.1 cx.2.1 dX12_laws_290 rfl (lv_at hl 2 rfl) ?_
      refine z_iadd cx dX12_laws_291 ?_
      refine z_iald cx hp (zs_12_25 u0 (kt_lt ru0 (by decide)) ru0) (rng_wr _) dX12_laws_292 hf (fun x16 rx16 hf => ?_)
      refine z_iast cx hp (zs_12_25 u0 (kt_lt ru0 (by decide)) ru0) (rng_wr _) rx16 dX12_laws_293 hf (fun h H locs hp hf => ?_)
      refine lv_aload_n cx.1 cx.2.1 dX12_laws_294 rfl (lv_at hl 0 rfl) ?_
      refine z_gets cx hp (T := TX12) 12 26 (u0 + 20) rfl zin_12 (by decide) (by decide) ru0 rfl fl_X12_67 dX12_laws_295 ?_
      refine z_bipush cx (by decide) dX12_laws_298 ?_
      refine lv_iload_n cx.1 cx.2.1 dX12_laws_300 rfl (lv_at hl 1 rfl) ?_
      refine z_imul cx dX12_laws_301 ?_
      refine lv_iload_n cx.1 cx.2.1 dX12_laws_302 rfl (lv_at hl 2 rfl) ?_
      refine z_iadd cx dX12_laws_303 ?_
      refine lv_aload_n cx.1 cx.2.1 dX12_laws_304 rfl (lv_at hl 0 rfl) ?_
      refine z_gets cx hp (T := TX12) 12 26 (u0 + 20) rfl zin_12 (by decide) (by decide) ru0 rfl fl_X12_67 dX12_laws_305 ?_
      refine z_sipush cx (by decide) dX12_laws_308 ?_
      refine lv_iload_n cx.1 cx.2.1 dX12_laws_311 rfl (lv_at hl 2 rfl) ?_
      refine z_iadd cx dX12_laws_312 ?_
      refine z_iald cx hp (zs_12_26 u0 (kt_lt ru0 (by decide)) ru0) (rng_wr _) dX12_laws_313 hf (fun x17 rx17 hf => ?_)
      refine z_iast cx hp (zs_12_26 u0 (kt_lt ru0 (by decide)) ru0) (rng_wr _) rx17 dX12_laws_314 hf (fun h H locs hp hf => ?_)
      refine z_iinc cx (fun x18 => [(2, .int (ii x18)), (0, .ref (B + u0)), (1, .int (ii u1))]) dX12_laws_315 hl (k := 2) rfl (by decide) (fun _ => rfl) hf (fun x18 rx18 hf ls hl => ?_)
      refine lv_goto (tgt := 267) cx.1 cx.2.1 dX12_laws_318 (by decide) ?_
      exact ih x18 h _ _ ls rx18 hp (lv_sub hl [1, 2, 0] rfl) hf
    · exact hk321  h _ _ ls  hp (lv_sub hl [0, 1] rfl) hf
def LX12_laws_169 (F : Nat) (u0 : Nat) (u1 : Int) (k265 : HF → RO) : Nat → Int → HF → RO
  | 0, _, _ => none
  | n + 1, v2, h =>
    if v2 < 80 then (
      zrd h (u0 + 13) (wr (320 + v2)) fun x19 =>
      zwr h (u0 + 13) (wr ((wr (80 * u1)) + v2)) x19 fun h =>
      zrd h (u0 + 14) (wr (320 + v2)) fun x20 =>
      zwr h (u0 + 14) (wr ((wr (80 * u1)) + v2)) x20 fun h =>
      zrd h (u0 + 15) (wr (320 + v2)) fun x21 =>
      zwr h (u0 + 15) (wr ((wr (80 * u1)) + v2)) x21 fun h =>
      zrd h (u0 + 16) (wr (320 + v2)) fun x22 =>
      zwr h (u0 + 16) (wr ((wr (80 * u1)) + v2)) x22 fun h =>
      zlet (wr (v2 + 1)) fun x23 =>
      LX12_laws_169 F u0 u1 k265 n x23 h
    ) else (
      k265  h
    )
set_option maxHeartbeats 4000000 in
set_option maxRecDepth 100000 in
theorem wX12_laws_169 {p : Program} {l : Launch} {e : Env} {s : State} {m : MethodId} {args : Array Value} {below : List Frame} {meth : Method} {c : Code} {Q : State → Prop} {g : zG} {B : Nat} {o : Int × HF} (F : Nat) (cx : Cx p s m args meth c cX12_laws 3 RX12 (some .int) g B) (u0 : Nat) (ru0 : kt u0 = 15) (u1 : Int) (ru1 : rng u1) (k265 : HF → RO) (hk265 : ∀  (h : HF) (H : Heap) (locs : List Loc) (ls : Array Slot), Hp g B s h H locs → lv_has ls 3 [(0, .ref (B + u0)), (1, .int (ii u1))] → k265  h = some o → W p l e (rmn 16) s m args below meth c H locs 0 0 Q (F0 m 265 ls [])) : ∀ (n : Nat) (v2 : Int) (h : HF) (H : Heap) (locs : List Loc) (ls : Array Slot), rng v2 → Hp g B s h H locs → lv_has ls 3 [(0, .ref (B + u0)), (1, .int (ii u1)), (2, .int (ii v2))] → LX12_laws_169 F u0 u1 k265 n v2 h = some o → W p l e (rmn 16) s m args below meth c H locs 0 0 Q (F0 m 169 ls []) := by
  intro n
  induction n with
  | zero =>
    intro v2 h H locs ls rv2 hp hl hf
    cases hf
  | succ n ih =>
    intro v2 h H locs ls rv2 hp hl hf
    rw [LX12_laws_169] at hf
    refine lv_iload_n cx.1 cx.2.1 dX12_laws_169 rfl (lv_at hl 2 rfl) ?_
    refine z_bipush cx (by decide) dX12_laws_170 ?_
    refine z_icmp_ge cx rv2 (by decide) (tgt := 265) dX12_laws_172 (by decide) hf (fun _ hf => ?_) (fun _ hf => ?_)
    · refine lv_aload_n cx.1 cx.2.1 dX12_laws_175 rfl (lv_at hl 0 rfl) ?_
      refine z_gets cx hp (T := TX12) 12 19 (u0 + 13) rfl zin_12 (by decide) (by decide) ru0 rfl fl_X12_46 dX12_laws_176 ?_
      refine z_bipush cx (by decide) dX12_laws_179 ?_
      refine lv_iload_n cx.1 cx.2.1 dX12_laws_181 rfl (lv_at hl 1 rfl) ?_
      refine z_imul cx dX12_laws_182 ?_
      refine lv_iload_n cx.1 cx.2.1 dX12_laws_183 rfl (lv_at hl 2 rfl) ?_
      refine z_iadd cx dX12_laws_184 ?_
      refine lv_aload_n cx.1 cx.2.1 dX12_laws_185 rfl (lv_at hl 0 rfl) ?_
      refine z_gets cx hp (T := TX12) 12 19 (u0 + 13) rfl zin_12 (by decide) (by decide) ru0 rfl fl_X12_46 dX12_laws_186 ?_
      refine z_sipush cx (by decide) dX12_laws_189 ?_
      refine lv_iload_n cx.1 cx.2.1 dX12_laws_192 rfl (lv_at hl 2 rfl) ?_
      refine z_iadd cx dX12_laws_193 ?_
      refine z_iald cx hp (zs_12_19 u0 (kt_lt ru0 (by decide)) ru0) (rng_wr _) dX12_laws_194 hf (fun x19 rx19 hf => ?_)
      refine z_iast cx hp (zs_12_19 u0 (kt_lt ru0 (by decide)) ru0) (rng_wr _) rx19 dX12_laws_195 hf (fun h H locs hp hf => ?_)
      refine lv_aload_n cx.1 cx.2.1 dX12_laws_196 rfl (lv_at hl 0 rfl) ?_
      refine z_gets cx hp (T := TX12) 12 20 (u0 + 14) rfl zin_12 (by decide) (by decide) ru0 rfl fl_X12_49 dX12_laws_197 ?_
      refine z_bipush cx (by decide) dX12_laws_200 ?_
      refine lv_iload_n cx.1 cx.2.1 dX12_laws_202 rfl (lv_at hl 1 rfl) ?_
      refine z_imul cx dX12_laws_203 ?_
      refine lv_iload_n cx.1 cx.2.1 dX12_laws_204 rfl (lv_at hl 2 rfl) ?_
      refine z_iadd cx dX12_laws_205 ?_
      refine lv_aload_n cx.1 cx.2.1 dX12_laws_206 rfl (lv_at hl 0 rfl) ?_
      refine z_gets cx hp (T := TX12) 12 20 (u0 + 14) rfl zin_12 (by decide) (by decide) ru0 rfl fl_X12_49 dX12_laws_207 ?_
      refine z_sipush cx (by decide) dX12_laws_210 ?_
      refine lv_iload_n cx.1 cx.2.1 dX12_laws_213 rfl (lv_at hl 2 rfl) ?_
      refine z_iadd cx dX12_laws_214 ?_
      refine z_iald cx hp (zs_12_20 u0 (kt_lt ru0 (by decide)) ru0) (rng_wr _) dX12_laws_215 hf (fun x20 rx20 hf => ?_)
      refine z_iast cx hp (zs_12_20 u0 (kt_lt ru0 (by decide)) ru0) (rng_wr _) rx20 dX12_laws_216 hf (fun h H locs hp hf => ?_)
      refine lv_aload_n cx.1 cx.2.1 dX12_laws_217 rfl (lv_at hl 0 rfl) ?_
      refine z_gets cx hp (T := TX12) 12 21 (u0 + 15) rfl zin_12 (by decide) (by decide) ru0 rfl fl_X12_52 dX12_laws_218 ?_
      refine z_bipush cx (by decide) dX12_laws_221 ?_
      refine lv_iload_n cx.1 cx.2.1 dX12_laws_223 rfl (lv_at hl 1 rfl) ?_
      refine z_imul cx dX12_laws_224 ?_
      refine lv_iload_n cx.1 cx.2.1 dX12_laws_225 rfl (lv_at hl 2 rfl) ?_
      refine z_iadd cx dX12_laws_226 ?_
      refine lv_aload_n cx.1 cx.2.1 dX12_laws_227 rfl (lv_at hl 0 rfl) ?_
      refine z_gets cx hp (T := TX12) 12 21 (u0 + 15) rfl zin_12 (by decide) (by decide) ru0 rfl fl_X12_52 dX12_laws_228 ?_
      refine z_sipush cx (by decide) dX12_laws_231 ?_
      refine lv_iload_n cx.1 cx.2.1 dX12_laws_234 rfl (lv_at hl 2 rfl) ?_
      refine z_iadd cx dX12_laws_235 ?_
      refine z_iald cx hp (zs_12_21 u0 (kt_lt ru0 (by decide)) ru0) (rng_wr _) dX12_laws_236 hf (fun x21 rx21 hf => ?_)
      refine z_iast cx hp (zs_12_21 u0 (kt_lt ru0 (by decide)) ru0) (rng_wr _) rx21 dX12_laws_237 hf (fun h H locs hp hf => ?_)
      refine lv_aload_n cx.1 cx.2.1 dX12_laws_238 rfl (lv_at hl 0 rfl) ?_
      refine z_gets cx hp (T := TX12) 12 22 (u0 + 16) rfl zin_12 (by decide) (by decide) ru0 rfl fl_X12_55 dX12_laws_239 ?_
      refine z_bipush cx (by decide) dX12_laws_242 ?_
      refine lv_iload_n cx.1 cx.2.1 dX12_laws_244 rfl (lv_at hl 1 rfl) ?_
      refine z_imul cx dX12_laws_245 ?_
      refine lv_iload_n cx.1 cx.2.1 dX12_laws_246 rfl (lv_at hl 2 rfl) ?_
      refine z_iadd cx dX12_laws_247 ?_
      refine lv_aload_n cx.1 cx.2.1 dX12_laws_248 rfl (lv_at hl 0 rfl) ?_
      refine z_gets cx hp (T := TX12) 12 22 (u0 + 16) rfl zin_12 (by decide) (by decide) ru0 rfl fl_X12_55 dX12_laws_249 ?_
      refine z_sipush cx (by decide) dX12_laws_252 ?_
      refine lv_iload_n cx.1 cx.2.1 dX12_laws_255 rfl (lv_at hl 2 rfl) ?_
      refine z_iadd cx dX12_laws_256 ?_
      refine z_iald cx hp (zs_12_22 u0 (kt_lt ru0 (by decide)) ru0) (rng_wr _) dX12_laws_257 hf (fun x22 rx22 hf => ?_)
      refine z_iast cx hp (zs_12_22 u0 (kt_lt ru0 (by decide)) ru0) (rng_wr _) rx22 dX12_laws_258 hf (fun h H locs hp hf => ?_)
      refine z_iinc cx (fun x23 => [(2, .int (ii x23)), (0, .ref (B + u0)), (1, .int (ii u1))]) dX12_laws_259 hl (k := 2) rfl (by decide) (fun _ => rfl) hf (fun x23 rx23 hf ls hl => ?_)
      refine lv_goto (tgt := 169) cx.1 cx.2.1 dX12_laws_262 (by decide) ?_
      exact ih x23 h _ _ ls rx23 hp (lv_sub hl [1, 2, 0] rfl) hf
    · exact hk265  h _ _ ls  hp (lv_sub hl [0, 1] rfl) hf
def LX12_laws_68 (F : Nat) (u0 : Nat) (u1 : Int) (k84 : HF → RO) : Nat → HF → RO
  | 0, _ => none
  | n + 1, h =>
    zbd (fX12_takes F u0 59 h) fun r27 h =>
    if r27 = 0 then (
      k84  h
    ) else (
      zbd (fX12_law F u0 h) fun _ h =>
      LX12_laws_68 F u0 u1 k84 n  h
    )
set_option maxHeartbeats 4000000 in
set_option maxRecDepth 100000 in
theorem wX12_laws_68 {p : Program} {l : Launch} {e : Env} {s : State} {m : MethodId} {args : Array Value} {below : List Frame} {meth : Method} {c : Code} {Q : State → Prop} {g : zG} {B : Nat} {o : Int × HF} (F : Nat) (cx : Cx p s m args meth c cX12_laws 3 RX12 (some .int) g B) (u0 : Nat) (ru0 : kt u0 = 15) (u1 : Int) (ru1 : rng u1) (k84 : HF → RO) (hk84 : ∀  (h : HF) (H : Heap) (locs : List Loc) (ls : Array Slot), Hp g B s h H locs → lv_has ls 3 [(0, .ref (B + u0)), (1, .int (ii u1))] → k84  h = some o → W p l e (rmn 16) s m args below meth c H locs 0 0 Q (F0 m 84 ls [])) : ∀ (n : Nat)  (h : HF) (H : Heap) (locs : List Loc) (ls : Array Slot), Hp g B s h H locs → lv_has ls 3 [(0, .ref (B + u0)), (1, .int (ii u1))] → LX12_laws_68 F u0 u1 k84 n  h = some o → W p l e (rmn 16) s m args below meth c H locs 0 0 Q (F0 m 68 ls []) := by
  intro n
  induction n with
  | zero =>
    intro  h H locs ls  hp hl hf
    cases hf
  | succ n ih =>
    intro  h H locs ls  hp hl hf
    rw [LX12_laws_68] at hf
    refine lv_aload_n cx.1 cx.2.1 dX12_laws_68 rfl (lv_at hl 0 rfl) ?_
    refine z_bipush cx (by decide) dX12_laws_69 ?_
    refine z_ci cx hp (fun o' hx => zrunV (n := 16) (As := [.int (ii 59)]) (rest := []) cx hp (mX12_takes F l g B h u0 59 ru0 (by decide) o' hx) 12 ru0 (by decide) rfl vw_X12_takes ml_X12_227 (by decide) rfl hl.1 rfl (Nat.le_of_ble_eq_true rfl) dX12_laws_71) hf (fun r27 h H locs rr27 hp hf => ?_)
    refine z_if_eq cx rr27 (tgt := 84) dX12_laws_74 (by decide) hf (fun _ hf => ?_) (fun _ hf => ?_)
    · exact hk84  h _ _ ls  hp (lv_sub hl [0, 1] rfl) hf
    · refine lv_aload_n cx.1 cx.2.1 dX12_laws_77 rfl (lv_at hl 0 rfl) ?_
      refine z_cv cx hp (fun o' hx => zrunV (n := 16) (As := []) (rest := []) cx hp (mX12_law F l g B h u0 ru0 o' hx) 12 ru0 (by decide) rfl vw_X12_law ml_X12_250 (by decide) rfl hl.1 rfl (Nat.le_of_ble_eq_true rfl) dX12_laws_78) hf (fun _ h H locs hp hf => ?_)
      refine lv_goto (tgt := 68) cx.1 cx.2.1 dX12_laws_81 (by decide) ?_
      exact ih  h _ _ ls  hp (lv_sub hl [0, 1] rfl) hf
def fX12_laws (F : Nat) (a0 : Nat) (a1 : Int) (h : HF) : RO :=
  zpf h a0 0 0 fun h =>
  zgf h a0 2 fun x1 =>
  zpf h a0 31 x1 fun h =>
  zpf h a0 2 0 fun h =>
  zbd (fX12_isList F a0 a1 h) fun r2 h =>
  if r2 = 0 then (
    some ((-3), h)
  ) else (
    zpf h a0 32 0 fun h =>
    zpf h a0 35 0 fun h =>
    zwr h (a0 + 18) 4 0 fun h =>
    zwr h (a0 + 21) 4 0 fun h =>
    zwr h (a0 + 24) 4 0 fun h =>
    zbd (fX12_nextSign F a0 h) fun _ h =>
    zbd (fX12_law F a0 h) fun _ h =>
    zjn (fun  (h : HF) => (
      zgf h a0 35 fun x5 =>
      zjn (fun  (h : HF) => (
        zbd (fX12_agree F a0 h) fun _ h =>
        zgf h a0 35 fun x7 =>
        zpf h a0 5 x7 fun h =>
        zgf h a0 35 fun x8 =>
        if x8 = 0 then (
          zrd h (a0 + 18) 4 fun x9 =>
          zwr h (a0 + 18) a1 x9 fun h =>
          zrd h (a0 + 21) 4 fun x10 =>
          zwr h (a0 + 21) a1 x10 fun h =>
          zrd h (a0 + 24) 4 fun x11 =>
          zwr h (a0 + 24) a1 x11 fun h =>
          zjn (fun  (h : HF) => (
            zjn (fun  (h : HF) => (
              zjn (fun  (h : HF) => (
                zrd h (a0 + 24) a1 fun x12 =>
                some (x12, h)
              )) fun j375 =>
              LX12_laws_323 F a0 a1 j375 F 0 h
            )) fun j321 =>
            LX12_laws_267 F a0 a1 j321 F 0 h
          )) fun j265 =>
          LX12_laws_169 F a0 a1 j265 F 0 h
        ) else (
          zgf h a0 36 fun x24 =>
          some (wr ((-100) - x24), h)
        )
      )) fun j104 =>
      if x5 = 0 then (
        zgf h a0 33 fun x25 =>
        if x25 = (-1) then (
          j104  h
        ) else (
          zbd (fX12_wrong F a0 1 h) fun _ h =>
          j104  h
        )
      ) else (
        j104  h
      )
    )) fun j84 =>
    LX12_laws_68 F a0 a1 j84 F  h
  )
set_option maxHeartbeats 4000000 in
set_option maxRecDepth 100000 in
theorem mX12_laws (F : Nat) (l : Launch) (g : zG) (B : Nat) (h : HF) (a0 : Nat) (a1 : Int) (ra0 : kt a0 = 15) (ra1 : rng a1) : CTi l g B yX12_laws cX12_laws 3 (some .int) 16 [.ref (B + a0), .int (ii a1)] h (fX12_laws F a0 a1 h) := by
  refine z_enterI (by decide) rfl (Nat.le_of_ble_eq_true rfl) ?_
  intro p e s m args below meth c ls o Q cx hp hl hf hQ
  have hl : lv_has ls 3 [(0, .ref (B + a0)), (1, .int (ii a1))] := hl
  unfold fX12_laws at hf
  refine lv_aload_n cx.1 cx.2.1 dX12_laws_0 rfl (lv_at hl 0 rfl) ?_
  refine z_iconst cx dX12_laws_1 ?_
  refine z_puti cx hp (T := TX12) tyX12 tyX12_ok nmX12 12 0 (by decide) rfl zin_12 (by decide) (by decide) ra0 rfl rfl rfl fl_X12_115 dX12_laws_2 hf (fun h H locs hp hf => ?_)
  refine lv_aload_n cx.1 cx.2.1 dX12_laws_5 rfl (lv_at hl 0 rfl) ?_
  refine lv_aload_n cx.1 cx.2.1 dX12_laws_6 rfl (lv_at hl 0 rfl) ?_
  refine z_geti cx hp (T := TX12) 12 2 rfl zin_12 (by decide) (by decide) ra0 rfl fl_X12_119 dX12_laws_7 hf (fun x1 rx1 hf => ?_)
  refine z_puti cx hp (T := TX12) tyX12 tyX12_ok nmX12 12 31 rx1 rfl zin_12 (by decide) (by decide) ra0 rfl rfl rfl fl_X12_209 dX12_laws_10 hf (fun h H locs hp hf => ?_)
  refine lv_aload_n cx.1 cx.2.1 dX12_laws_13 rfl (lv_at hl 0 rfl) ?_
  refine z_iconst cx dX12_laws_14 ?_
  refine z_puti cx hp (T := TX12) tyX12 tyX12_ok nmX12 12 2 (by decide) rfl zin_12 (by decide) (by decide) ra0 rfl rfl rfl fl_X12_119 dX12_laws_15 hf (fun h H locs hp hf => ?_)
  refine lv_aload_n cx.1 cx.2.1 dX12_laws_18 rfl (lv_at hl 0 rfl) ?_
  refine lv_iload_n cx.1 cx.2.1 dX12_laws_19 rfl (lv_at hl 1 rfl) ?_
  refine z_ci cx hp (fun o' hx => zrunV (n := 16) (As := [.int (ii a1)]) (rest := []) cx hp (mX12_isList F l g B h a0 a1 ra0 ra1 o' hx) 12 ra0 (by decide) rfl vw_X12_isList ml_X12_247 (by decide) rfl hl.1 rfl (Nat.le_of_ble_eq_true rfl) dX12_laws_20) hf (fun r2 h H locs rr2 hp hf => ?_)
  refine z_if_ne cx rr2 (tgt := 29) dX12_laws_23 (by decide) hf (fun _ hf => ?_) (fun _ hf => ?_)
  · refine z_bipush cx (by decide) dX12_laws_26 ?_
    rw [hQ]; exact z_iret cx hp (by decide) dX12_laws_28 hf
  · refine lv_aload_n cx.1 cx.2.1 dX12_laws_29 rfl (lv_at hl 0 rfl) ?_
    refine z_iconst cx dX12_laws_30 ?_
    refine z_puti cx hp (T := TX12) tyX12 tyX12_ok nmX12 12 32 (by decide) rfl zin_12 (by decide) (by decide) ra0 rfl rfl rfl fl_X12_206 dX12_laws_31 hf (fun h H locs hp hf => ?_)
    refine lv_aload_n cx.1 cx.2.1 dX12_laws_34 rfl (lv_at hl 0 rfl) ?_
    refine z_iconst cx dX12_laws_35 ?_
    refine z_puti cx hp (T := TX12) tyX12 tyX12_ok nmX12 12 35 (by decide) rfl zin_12 (by decide) (by decide) ra0 rfl rfl rfl fl_X12_218 dX12_laws_36 hf (fun h H locs hp hf => ?_)
    refine lv_aload_n cx.1 cx.2.1 dX12_laws_39 rfl (lv_at hl 0 rfl) ?_
    refine z_gets cx hp (T := TX12) 12 24 (a0 + 18) rfl zin_12 (by decide) (by decide) ra0 rfl fl_X12_61 dX12_laws_40 ?_
    refine z_iconst cx dX12_laws_43 ?_
    refine z_iconst cx dX12_laws_44 ?_
    refine z_iast cx hp (zs_12_24 a0 (kt_lt ra0 (by decide)) ra0) (by decide) (by decide) dX12_laws_45 hf (fun h H locs hp hf => ?_)
    refine lv_aload_n cx.1 cx.2.1 dX12_laws_46 rfl (lv_at hl 0 rfl) ?_
    refine z_gets cx hp (T := TX12) 12 27 (a0 + 21) rfl zin_12 (by decide) (by decide) ra0 rfl fl_X12_70 dX12_laws_47 ?_
    refine z_iconst cx dX12_laws_50 ?_
    refine z_iconst cx dX12_laws_51 ?_
    refine z_iast cx hp (zs_12_27 a0 (kt_lt ra0 (by decide)) ra0) (by decide) (by decide) dX12_laws_52 hf (fun h H locs hp hf => ?_)
    refine lv_aload_n cx.1 cx.2.1 dX12_laws_53 rfl (lv_at hl 0 rfl) ?_
    refine z_gets cx hp (T := TX12) 12 30 (a0 + 24) rfl zin_12 (by decide) (by decide) ra0 rfl fl_X12_79 dX12_laws_54 ?_
    refine z_iconst cx dX12_laws_57 ?_
    refine z_iconst cx dX12_laws_58 ?_
    refine z_iast cx hp (zs_12_30 a0 (kt_lt ra0 (by decide)) ra0) (by decide) (by decide) dX12_laws_59 hf (fun h H locs hp hf => ?_)
    refine lv_aload_n cx.1 cx.2.1 dX12_laws_60 rfl (lv_at hl 0 rfl) ?_
    refine z_cv cx hp (fun o' hx => zrunV (n := 16) (As := []) (rest := []) cx hp (mX12_nextSign F l g B h a0 ra0 o' hx) 12 ra0 (by decide) rfl vw_X12_nextSign ml_X12_224 (by decide) rfl hl.1 rfl (Nat.le_of_ble_eq_true rfl) dX12_laws_61) hf (fun _ h H locs hp hf => ?_)
    refine lv_aload_n cx.1 cx.2.1 dX12_laws_64 rfl (lv_at hl 0 rfl) ?_
    refine z_cv cx hp (fun o' hx => zrunV (n := 16) (As := []) (rest := []) cx hp (mX12_law F l g B h a0 ra0 o' hx) 12 ra0 (by decide) rfl vw_X12_law ml_X12_250 (by decide) rfl hl.1 rfl (Nat.le_of_ble_eq_true rfl) dX12_laws_65) hf (fun _ h H locs hp hf => ?_)
    refine z_jn hf (fun j => ∀  (h : HF) (H : Heap) (locs : List Loc) (ls : Array Slot), Hp g B s h H locs → lv_has ls 3 [(0, .ref (B + a0)), (1, .int (ii a1))] → j  h = some o → W p l e (rmn 16) s m args below meth c H locs 0 0 Q (F0 m 84 ls [])) ?_ (fun j84 hj84 hf => ?_)
    · intro  h H locs ls  hp hl hf
      refine lv_aload_n cx.1 cx.2.1 dX12_laws_84 rfl (lv_at hl 0 rfl) ?_
      refine z_geti cx hp (T := TX12) 12 35 rfl zin_12 (by decide) (by decide) ra0 rfl fl_X12_218 dX12_laws_85 hf (fun x5 rx5 hf => ?_)
      refine z_jn hf (fun j => ∀  (h : HF) (H : Heap) (locs : List Loc) (ls : Array Slot), Hp g B s h H locs → lv_has ls 3 [(0, .ref (B + a0)), (1, .int (ii a1))] → j  h = some o → W p l e (rmn 16) s m args below meth c H locs 0 0 Q (F0 m 104 ls [])) ?_ (fun j104 hj104 hf => ?_)
      · intro  h H locs ls  hp hl hf
        refine lv_aload_n cx.1 cx.2.1 dX12_laws_104 rfl (lv_at hl 0 rfl) ?_
        refine z_cv cx hp (fun o' hx => zrunV (n := 16) (As := []) (rest := []) cx hp (mX12_agree F l g B h a0 ra0 o' hx) 12 ra0 (by decide) rfl vw_X12_agree ml_X12_253 (by decide) rfl hl.1 rfl (Nat.le_of_ble_eq_true rfl) dX12_laws_105) hf (fun _ h H locs hp hf => ?_)
        refine lv_aload_n cx.1 cx.2.1 dX12_laws_108 rfl (lv_at hl 0 rfl) ?_
        refine lv_aload_n cx.1 cx.2.1 dX12_laws_109 rfl (lv_at hl 0 rfl) ?_
        refine z_geti cx hp (T := TX12) 12 35 rfl zin_12 (by decide) (by decide) ra0 rfl fl_X12_218 dX12_laws_110 hf (fun x7 rx7 hf => ?_)
        refine z_puti cx hp (T := TX12) tyX12 tyX12_ok nmX12 12 5 rx7 rfl zin_12 (by decide) (by decide) ra0 rfl rfl rfl fl_X12_190 dX12_laws_113 hf (fun h H locs hp hf => ?_)
        refine lv_aload_n cx.1 cx.2.1 dX12_laws_116 rfl (lv_at hl 0 rfl) ?_
        refine z_geti cx hp (T := TX12) 12 35 rfl zin_12 (by decide) (by decide) ra0 rfl fl_X12_218 dX12_laws_117 hf (fun x8 rx8 hf => ?_)
        refine z_if_eq cx rx8 (tgt := 131) dX12_laws_120 (by decide) hf (fun _ hf => ?_) (fun _ hf => ?_)
        · refine lv_aload_n cx.1 cx.2.1 dX12_laws_131 rfl (lv_at hl 0 rfl) ?_
          refine z_gets cx hp (T := TX12) 12 24 (a0 + 18) rfl zin_12 (by decide) (by decide) ra0 rfl fl_X12_61 dX12_laws_132 ?_
          refine lv_iload_n cx.1 cx.2.1 dX12_laws_135 rfl (lv_at hl 1 rfl) ?_
          refine lv_aload_n cx.1 cx.2.1 dX12_laws_136 rfl (lv_at hl 0 rfl) ?_
          refine z_gets cx hp (T := TX12) 12 24 (a0 + 18) rfl zin_12 (by decide) (by decide) ra0 rfl fl_X12_61 dX12_laws_137 ?_
          refine z_iconst cx dX12_laws_140 ?_
          refine z_iald cx hp (zs_12_24 a0 (kt_lt ra0 (by decide)) ra0) (by decide) dX12_laws_141 hf (fun x9 rx9 hf => ?_)
          refine z_iast cx hp (zs_12_24 a0 (kt_lt ra0 (by decide)) ra0) ra1 rx9 dX12_laws_142 hf (fun h H locs hp hf => ?_)
          refine lv_aload_n cx.1 cx.2.1 dX12_laws_143 rfl (lv_at hl 0 rfl) ?_
          refine z_gets cx hp (T := TX12) 12 27 (a0 + 21) rfl zin_12 (by decide) (by decide) ra0 rfl fl_X12_70 dX12_laws_144 ?_
          refine lv_iload_n cx.1 cx.2.1 dX12_laws_147 rfl (lv_at hl 1 rfl) ?_
          refine lv_aload_n cx.1 cx.2.1 dX12_laws_148 rfl (lv_at hl 0 rfl) ?_
          refine z_gets cx hp (T := TX12) 12 27 (a0 + 21) rfl zin_12 (by decide) (by decide) ra0 rfl fl_X12_70 dX12_laws_149 ?_
          refine z_iconst cx dX12_laws_152 ?_
          refine z_iald cx hp (zs_12_27 a0 (kt_lt ra0 (by decide)) ra0) (by decide) dX12_laws_153 hf (fun x10 rx10 hf => ?_)
          refine z_iast cx hp (zs_12_27 a0 (kt_lt ra0 (by decide)) ra0) ra1 rx10 dX12_laws_154 hf (fun h H locs hp hf => ?_)
          refine lv_aload_n cx.1 cx.2.1 dX12_laws_155 rfl (lv_at hl 0 rfl) ?_
          refine z_gets cx hp (T := TX12) 12 30 (a0 + 24) rfl zin_12 (by decide) (by decide) ra0 rfl fl_X12_79 dX12_laws_156 ?_
          refine lv_iload_n cx.1 cx.2.1 dX12_laws_159 rfl (lv_at hl 1 rfl) ?_
          refine lv_aload_n cx.1 cx.2.1 dX12_laws_160 rfl (lv_at hl 0 rfl) ?_
          refine z_gets cx hp (T := TX12) 12 30 (a0 + 24) rfl zin_12 (by decide) (by decide) ra0 rfl fl_X12_79 dX12_laws_161 ?_
          refine z_iconst cx dX12_laws_164 ?_
          refine z_iald cx hp (zs_12_30 a0 (kt_lt ra0 (by decide)) ra0) (by decide) dX12_laws_165 hf (fun x11 rx11 hf => ?_)
          refine z_iast cx hp (zs_12_30 a0 (kt_lt ra0 (by decide)) ra0) ra1 rx11 dX12_laws_166 hf (fun h H locs hp hf => ?_)
          refine z_iconst cx dX12_laws_167 ?_
          refine lv_istore_n (lv' := [(2, .int (ii 0)), (0, .ref (B + a0)), (1, .int (ii a1))]) cx.1 cx.2.1 dX12_laws_168 rfl hl (by decide) rfl (fun ls hl => ?_)
          refine z_jn hf (fun j => ∀  (h : HF) (H : Heap) (locs : List Loc) (ls : Array Slot), Hp g B s h H locs → lv_has ls 3 [(0, .ref (B + a0)), (1, .int (ii a1))] → j  h = some o → W p l e (rmn 16) s m args below meth c H locs 0 0 Q (F0 m 265 ls [])) ?_ (fun j265 hj265 hf => ?_)
          · intro  h H locs ls  hp hl hf
            refine z_iconst cx dX12_laws_265 ?_
            refine lv_istore_n (lv' := [(2, .int (ii 0)), (0, .ref (B + a0)), (1, .int (ii a1))]) cx.1 cx.2.1 dX12_laws_266 rfl hl (by decide) rfl (fun ls hl => ?_)
            refine z_jn hf (fun j => ∀  (h : HF) (H : Heap) (locs : List Loc) (ls : Array Slot), Hp g B s h H locs → lv_has ls 3 [(0, .ref (B + a0)), (1, .int (ii a1))] → j  h = some o → W p l e (rmn 16) s m args below meth c H locs 0 0 Q (F0 m 321 ls [])) ?_ (fun j321 hj321 hf => ?_)
            · intro  h H locs ls  hp hl hf
              refine z_iconst cx dX12_laws_321 ?_
              refine lv_istore_n (lv' := [(2, .int (ii 0)), (0, .ref (B + a0)), (1, .int (ii a1))]) cx.1 cx.2.1 dX12_laws_322 rfl hl (by decide) rfl (fun ls hl => ?_)
              refine z_jn hf (fun j => ∀  (h : HF) (H : Heap) (locs : List Loc) (ls : Array Slot), Hp g B s h H locs → lv_has ls 3 [(0, .ref (B + a0)), (1, .int (ii a1))] → j  h = some o → W p l e (rmn 16) s m args below meth c H locs 0 0 Q (F0 m 375 ls [])) ?_ (fun j375 hj375 hf => ?_)
              · intro  h H locs ls  hp hl hf
                refine lv_aload_n cx.1 cx.2.1 dX12_laws_375 rfl (lv_at hl 0 rfl) ?_
                refine z_gets cx hp (T := TX12) 12 30 (a0 + 24) rfl zin_12 (by decide) (by decide) ra0 rfl fl_X12_79 dX12_laws_376 ?_
                refine lv_iload_n cx.1 cx.2.1 dX12_laws_379 rfl (lv_at hl 1 rfl) ?_
                refine z_iald cx hp (zs_12_30 a0 (kt_lt ra0 (by decide)) ra0) ra1 dX12_laws_380 hf (fun x12 rx12 hf => ?_)
                rw [hQ]; exact z_iret cx hp rx12 dX12_laws_381 hf
              exact wX12_laws_323 F cx a0 ra0 a1 ra1 j375 hj375 F 0 h _ _ ls (by decide) hp (lv_sub hl [1, 2, 0] rfl) hf
            exact wX12_laws_267 F cx a0 ra0 a1 ra1 j321 hj321 F 0 h _ _ ls (by decide) hp (lv_sub hl [1, 2, 0] rfl) hf
          exact wX12_laws_169 F cx a0 ra0 a1 ra1 j265 hj265 F 0 h _ _ ls (by decide) hp (lv_sub hl [1, 2, 0] rfl) hf
        · refine z_bipush cx (by decide) dX12_laws_123 ?_
          refine lv_aload_n cx.1 cx.2.1 dX12_laws_125 rfl (lv_at hl 0 rfl) ?_
          refine z_geti cx hp (T := TX12) 12 36 rfl zin_12 (by decide) (by decide) ra0 rfl fl_X12_221 dX12_laws_126 hf (fun x24 rx24 hf => ?_)
          refine z_isub cx dX12_laws_129 ?_
          rw [hQ]; exact z_iret cx hp (rng_wr _) dX12_laws_130 hf
      refine z_if_ne cx rx5 (tgt := 104) dX12_laws_88 (by decide) hf (fun _ hf => ?_) (fun _ hf => ?_)
      · refine lv_aload_n cx.1 cx.2.1 dX12_laws_91 rfl (lv_at hl 0 rfl) ?_
        refine z_geti cx hp (T := TX12) 12 33 rfl zin_12 (by decide) (by decide) ra0 rfl fl_X12_215 dX12_laws_92 hf (fun x25 rx25 hf => ?_)
        refine z_iconst cx dX12_laws_95 ?_
        refine z_icmp_eq cx rx25 (by decide) (tgt := 104) dX12_laws_96 (by decide) hf (fun _ hf => ?_) (fun _ hf => ?_)
        · exact hj104  h _ _ ls  hp (lv_sub hl [0, 1] rfl) hf
        · refine lv_aload_n cx.1 cx.2.1 dX12_laws_99 rfl (lv_at hl 0 rfl) ?_
          refine z_iconst cx dX12_laws_100 ?_
          refine z_cv cx hp (fun o' hx => zrunV (n := 16) (As := [.int (ii 1)]) (rest := []) cx hp (mX12_wrong F l g B h a0 1 ra0 (by decide) o' hx) 12 ra0 (by decide) rfl vw_X12_wrong ml_X12_230 (by decide) rfl hl.1 rfl (Nat.le_of_ble_eq_true rfl) dX12_laws_101) hf (fun _ h H locs hp hf => ?_)
          exact hj104  h _ _ ls  hp (lv_sub hl [0, 1] rfl) hf
      · exact hj104  h _ _ ls  hp (lv_sub hl [0, 1] rfl) hf
    exact wX12_laws_68 F cx a0 ra0 a1 ra1 j84 hj84 F  h _ _ ls  hp (lv_sub hl [0, 1] rfl) hf
theorem dX12_fault_0 : decode cX12_fault 0 = .ok (.aload_n 0, 1) := by decide +kernel
theorem dX12_fault_1 : decode cX12_fault 1 = .ok (.iconst 0, 1) := by decide +kernel
theorem dX12_fault_2 : decode cX12_fault 2 = .ok (.putfield 115, 3) := by decide +kernel
theorem dX12_fault_5 : decode cX12_fault 5 = .ok (.aload_n 0, 1) := by decide +kernel
theorem dX12_fault_6 : decode cX12_fault 6 = .ok (.getfield 190, 3) := by decide +kernel
theorem dX12_fault_9 : decode cX12_fault 9 = .ok (.ireturn, 1) := by decide +kernel
def fX12_fault (F : Nat) (a0 : Nat) (h : HF) : RO :=
  zpf h a0 0 0 fun h =>
  zgf h a0 5 fun x1 =>
  some (x1, h)
set_option maxHeartbeats 4000000 in
set_option maxRecDepth 100000 in
theorem mX12_fault (F : Nat) (l : Launch) (g : zG) (B : Nat) (h : HF) (a0 : Nat) (ra0 : kt a0 = 15) : CTi l g B yX12_fault cX12_fault 1 (some .int) 0 [.ref (B + a0)] h (fX12_fault F a0 h) := by
  refine z_enterI (by decide) rfl (Nat.le_of_ble_eq_true rfl) ?_
  intro p e s m args below meth c ls o Q cx hp hl hf hQ
  have hl : lv_has ls 1 [(0, .ref (B + a0))] := hl
  unfold fX12_fault at hf
  refine lv_aload_n cx.1 cx.2.1 dX12_fault_0 rfl (lv_at hl 0 rfl) ?_
  refine z_iconst cx dX12_fault_1 ?_
  refine z_puti cx hp (T := TX12) tyX12 tyX12_ok nmX12 12 0 (by decide) rfl zin_12 (by decide) (by decide) ra0 rfl rfl rfl fl_X12_115 dX12_fault_2 hf (fun h H locs hp hf => ?_)
  refine lv_aload_n cx.1 cx.2.1 dX12_fault_5 rfl (lv_at hl 0 rfl) ?_
  refine z_geti cx hp (T := TX12) 12 5 rfl zin_12 (by decide) (by decide) ra0 rfl fl_X12_190 dX12_fault_6 hf (fun x1 rx1 hf => ?_)
  rw [hQ]; exact z_iret cx hp rx1 dX12_fault_9 hf
theorem dX12_fits_0 : decode cX12_fits 0 = .ok (.iconst 1, 1) := by decide +kernel
theorem dX12_fits_1 : decode cX12_fits 1 = .ok (.istore_n 3, 1) := by decide +kernel
theorem dX12_fits_2 : decode cX12_fits 2 = .ok (.bipush 80, 2) := by decide +kernel
theorem dX12_fits_4 : decode cX12_fits 4 = .ok (.iload_n 2, 1) := by decide +kernel
theorem dX12_fits_5 : decode cX12_fits 5 = .ok (.imul, 1) := by decide +kernel
theorem dX12_fits_6 : decode cX12_fits 6 = .ok (.istore 4, 2) := by decide +kernel
theorem dX12_fits_8 : decode cX12_fits 8 = .ok (.iload 4, 2) := by decide +kernel
theorem dX12_fits_10 : decode cX12_fits 10 = .ok (.bipush 80, 2) := by decide +kernel
theorem dX12_fits_12 : decode cX12_fits 12 = .ok (.iload_n 2, 1) := by decide +kernel
theorem dX12_fits_13 : decode cX12_fits 13 = .ok (.imul, 1) := by decide +kernel
theorem dX12_fits_14 : decode cX12_fits 14 = .ok (.aload_n 0, 1) := by decide +kernel
theorem dX12_fits_15 : decode cX12_fits 15 = .ok (.getfield 61, 3) := by decide +kernel
theorem dX12_fits_18 : decode cX12_fits 18 = .ok (.iload_n 2, 1) := by decide +kernel
theorem dX12_fits_19 : decode cX12_fits 19 = .ok (.iaload, 1) := by decide +kernel
theorem dX12_fits_20 : decode cX12_fits 20 = .ok (.iadd, 1) := by decide +kernel
theorem dX12_fits_21 : decode cX12_fits 21 = .ok (.if_icmp .ge 63, 3) := by decide +kernel
theorem dX12_fits_24 : decode cX12_fits 24 = .ok (.aload_n 0, 1) := by decide +kernel
theorem dX12_fits_25 : decode cX12_fits 25 = .ok (.getfield 46, 3) := by decide +kernel
theorem dX12_fits_28 : decode cX12_fits 28 = .ok (.iload 4, 2) := by decide +kernel
theorem dX12_fits_30 : decode cX12_fits 30 = .ok (.iaload, 1) := by decide +kernel
theorem dX12_fits_31 : decode cX12_fits 31 = .ok (.iconst 3, 1) := by decide +kernel
theorem dX12_fits_32 : decode cX12_fits 32 = .ok (.isub, 1) := by decide +kernel
theorem dX12_fits_33 : decode cX12_fits 33 = .ok (.istore 5, 2) := by decide +kernel
theorem dX12_fits_35 : decode cX12_fits 35 = .ok (.iload_n 3, 1) := by decide +kernel
theorem dX12_fits_36 : decode cX12_fits 36 = .ok (.ifCond .eq 40, 3) := by decide +kernel
theorem dX12_fits_39 : decode cX12_fits 39 = .ok (.iload 5, 2) := by decide +kernel
theorem dX12_fits_41 : decode cX12_fits 41 = .ok (.ifCond .lt 31, 3) := by decide +kernel
theorem dX12_fits_44 : decode cX12_fits 44 = .ok (.iload 5, 2) := by decide +kernel
theorem dX12_fits_46 : decode cX12_fits 46 = .ok (.aload_n 0, 1) := by decide +kernel
theorem dX12_fits_47 : decode cX12_fits 47 = .ok (.getfield 19, 3) := by decide +kernel
theorem dX12_fits_50 : decode cX12_fits 50 = .ok (.iload_n 1, 1) := by decide +kernel
theorem dX12_fits_51 : decode cX12_fits 51 = .ok (.iaload, 1) := by decide +kernel
theorem dX12_fits_52 : decode cX12_fits 52 = .ok (.if_icmp .ge 24, 3) := by decide +kernel
theorem dX12_fits_55 : decode cX12_fits 55 = .ok (.aload_n 0, 1) := by decide +kernel
theorem dX12_fits_56 : decode cX12_fits 56 = .ok (.iload_n 1, 1) := by decide +kernel
theorem dX12_fits_57 : decode cX12_fits 57 = .ok (.iload 5, 2) := by decide +kernel
theorem dX12_fits_59 : decode cX12_fits 59 = .ok (.invokevirtual 129, 3) := by decide +kernel
theorem dX12_fits_62 : decode cX12_fits 62 = .ok (.aload_n 0, 1) := by decide +kernel
theorem dX12_fits_63 : decode cX12_fits 63 = .ok (.getfield 49, 3) := by decide +kernel
theorem dX12_fits_66 : decode cX12_fits 66 = .ok (.iload 4, 2) := by decide +kernel
theorem dX12_fits_68 : decode cX12_fits 68 = .ok (.iaload, 1) := by decide +kernel
theorem dX12_fits_69 : decode cX12_fits 69 = .ok (.if_icmp .ne 7, 3) := by decide +kernel
theorem dX12_fits_72 : decode cX12_fits 72 = .ok (.iconst 1, 1) := by decide +kernel
theorem dX12_fits_73 : decode cX12_fits 73 = .ok (.goto 4, 3) := by decide +kernel
theorem dX12_fits_76 : decode cX12_fits 76 = .ok (.iconst 0, 1) := by decide +kernel
theorem dX12_fits_77 : decode cX12_fits 77 = .ok (.istore_n 3, 1) := by decide +kernel
theorem dX12_fits_78 : decode cX12_fits 78 = .ok (.iinc 4 1, 3) := by decide +kernel
theorem dX12_fits_81 : decode cX12_fits 81 = .ok (.goto (-73), 3) := by decide +kernel
theorem dX12_fits_84 : decode cX12_fits 84 = .ok (.iload_n 3, 1) := by decide +kernel
theorem dX12_fits_85 : decode cX12_fits 85 = .ok (.ireturn, 1) := by decide +kernel
def LX12_fits_8 (F : Nat) (u0 : Nat) (u1 : Int) (u2 : Int) (k84 : Int → HF → RO) : Nat → Int → Int → HF → RO
  | 0, _, _, _ => none
  | n + 1, v3, v4, h =>
    zrd h (u0 + 18) u2 fun x2 =>
    if v4 < wr ((wr (80 * u2)) + x2) then (
      zrd h (u0 + 13) v4 fun x3 =>
      zlet (wr (x3 - 3)) fun x4 =>
      zjn (fun (x77_4 : Int) (y77_0 : Int) (h : HF) => (
        zlet (wr (x77_4 + 1)) fun x5 =>
        LX12_fits_8 F u0 u1 u2 k84 n y77_0 x5 h
      )) fun j77 =>
      zjn (fun (x76_4 : Int) (h : HF) => (
        j77 x76_4 0 h
      )) fun j76 =>
      if v3 = 0 then (
        j76 v4 h
      ) else (
        zjn (fun (x72_4 : Int) (h : HF) => (
          j77 x72_4 1 h
        )) fun j72 =>
        if x4 < 0 then (
          j72 v4 h
        ) else (
          zrd h (u0 + 4) u1 fun x6 =>
          if x4 < x6 then (
            zbd (fX12_arity F u0 u1 x4 h) fun r7 h =>
            zrd h (u0 + 14) v4 fun x8 =>
            if r7 = x8 then (
              j72 v4 h
            ) else (
              j76 v4 h
            )
          ) else (
            j76 v4 h
          )
        )
      )
    ) else (
      k84 v3 h
    )
set_option maxHeartbeats 4000000 in
set_option maxRecDepth 100000 in
theorem wX12_fits_8 {p : Program} {l : Launch} {e : Env} {s : State} {m : MethodId} {args : Array Value} {below : List Frame} {meth : Method} {c : Code} {Q : State → Prop} {g : zG} {B : Nat} {o : Int × HF} (F : Nat) (cx : Cx p s m args meth c cX12_fits 6 RX12 (some .boolean) g B) (u0 : Nat) (ru0 : kt u0 = 15) (u1 : Int) (ru1 : rng u1) (u2 : Int) (ru2 : rng u2) (k84 : Int → HF → RO) (hk84 : ∀ (x3 : Int) (h : HF) (H : Heap) (locs : List Loc) (ls : Array Slot), rng x3 → Hp g B s h H locs → lv_has ls 6 [(3, .int (ii x3))] → k84 x3 h = some o → W p l e (rmn 1) s m args below meth c H locs 0 0 Q (F0 m 84 ls [])) : ∀ (n : Nat) (v3 : Int) (v4 : Int) (h : HF) (H : Heap) (locs : List Loc) (ls : Array Slot), rng v3 → rng v4 → Hp g B s h H locs → lv_has ls 6 [(0, .ref (B + u0)), (1, .int (ii u1)), (2, .int (ii u2)), (3, .int (ii v3)), (4, .int (ii v4))] → LX12_fits_8 F u0 u1 u2 k84 n v3 v4 h = some o → W p l e (rmn 1) s m args below meth c H locs 0 0 Q (F0 m 8 ls []) := by
  intro n
  induction n with
  | zero =>
    intro v3 v4 h H locs ls rv3 rv4 hp hl hf
    cases hf
  | succ n ih =>
    intro v3 v4 h H locs ls rv3 rv4 hp hl hf
    rw [LX12_fits_8] at hf
    refine lv_iload cx.1 cx.2.1 dX12_fits_8 (lv_at hl 4 rfl) ?_
    refine z_bipush cx (by decide) dX12_fits_10 ?_
    refine lv_iload_n cx.1 cx.2.1 dX12_fits_12 rfl (lv_at hl 2 rfl) ?_
    refine z_imul cx dX12_fits_13 ?_
    refine lv_aload_n cx.1 cx.2.1 dX12_fits_14 rfl (lv_at hl 0 rfl) ?_
    refine z_gets cx hp (T := TX12) 12 24 (u0 + 18) rfl zin_12 (by decide) (by decide) ru0 rfl fl_X12_61 dX12_fits_15 ?_
    refine lv_iload_n cx.1 cx.2.1 dX12_fits_18 rfl (lv_at hl 2 rfl) ?_
    refine z_iald cx hp (zs_12_24 u0 (kt_lt ru0 (by decide)) ru0) ru2 dX12_fits_19 hf (fun x2 rx2 hf => ?_)
    refine z_iadd cx dX12_fits_20 ?_
    refine z_icmp_ge cx rv4 (rng_wr _) (tgt := 84) dX12_fits_21 (by decide) hf (fun _ hf => ?_) (fun _ hf => ?_)
    · refine lv_aload_n cx.1 cx.2.1 dX12_fits_24 rfl (lv_at hl 0 rfl) ?_
      refine z_gets cx hp (T := TX12) 12 19 (u0 + 13) rfl zin_12 (by decide) (by decide) ru0 rfl fl_X12_46 dX12_fits_25 ?_
      refine lv_iload cx.1 cx.2.1 dX12_fits_28 (lv_at hl 4 rfl) ?_
      refine z_iald cx hp (zs_12_19 u0 (kt_lt ru0 (by decide)) ru0) rv4 dX12_fits_30 hf (fun x3 rx3 hf => ?_)
      refine z_iconst cx dX12_fits_31 ?_
      refine z_isub cx dX12_fits_32 ?_
      refine z_let (rng_wr _) hf (fun x4 rx4 hf => ?_)
      refine lv_istore (lv' := [(5, .int (ii x4)), (0, .ref (B + u0)), (1, .int (ii u1)), (2, .int (ii u2)), (3, .int (ii v3)), (4, .int (ii v4))]) cx.1 cx.2.1 dX12_fits_33 hl (by decide) rfl (fun ls hl => ?_)
      refine lv_iload_n cx.1 cx.2.1 dX12_fits_35 rfl (lv_at hl 4 rfl) ?_
      refine z_jn hf (fun j => ∀ (x77_4 : Int) (y77_0 : Int) (h : HF) (H : Heap) (locs : List Loc) (ls : Array Slot), rng x77_4 → rng y77_0 → Hp g B s h H locs → lv_has ls 6 [(0, .ref (B + u0)), (1, .int (ii u1)), (2, .int (ii u2)), (4, .int (ii x77_4))] → j x77_4 y77_0 h = some o → W p l e (rmn 1) s m args below meth c H locs 0 0 Q (F0 m 77 ls [.int (ii y77_0)])) ?_ (fun j77 hj77 hf => ?_)
      · intro x77_4 y77_0 h H locs ls rx77_4 ry77_0 hp hl hf
        refine lv_istore_n (lv' := [(3, .int (ii y77_0)), (0, .ref (B + u0)), (1, .int (ii u1)), (2, .int (ii u2)), (4, .int (ii x77_4))]) cx.1 cx.2.1 dX12_fits_77 rfl hl (by decide) rfl (fun ls hl => ?_)
        refine z_iinc cx (fun x5 => [(4, .int (ii x5)), (3, .int (ii y77_0)), (0, .ref (B + u0)), (1, .int (ii u1)), (2, .int (ii u2))]) dX12_fits_78 hl (k := 4) rfl (by decide) (fun _ => rfl) hf (fun x5 rx5 hf ls hl => ?_)
        refine lv_goto (tgt := 8) cx.1 cx.2.1 dX12_fits_81 (by decide) ?_
        exact ih y77_0 x5 h _ _ ls ry77_0 rx5 hp (lv_sub hl [2, 3, 4, 1, 0] rfl) hf
      refine z_jn hf (fun j => ∀ (x76_4 : Int) (h : HF) (H : Heap) (locs : List Loc) (ls : Array Slot), rng x76_4 → Hp g B s h H locs → lv_has ls 6 [(0, .ref (B + u0)), (1, .int (ii u1)), (2, .int (ii u2)), (4, .int (ii x76_4))] → j x76_4 h = some o → W p l e (rmn 1) s m args below meth c H locs 0 0 Q (F0 m 76 ls [])) ?_ (fun j76 hj76 hf => ?_)
      · intro x76_4 h H locs ls rx76_4 hp hl hf
        refine z_iconst cx dX12_fits_76 ?_
        exact hj77 x76_4 0 h _ _ ls rx76_4 (by decide) hp (lv_sub hl [0, 1, 2, 3] rfl) hf
      refine z_if_eq cx rv3 (tgt := 76) dX12_fits_36 (by decide) hf (fun _ hf => ?_) (fun _ hf => ?_)
      · exact hj76 v4 h _ _ ls rv4 hp (lv_sub hl [1, 2, 3, 5] rfl) hf
      · refine lv_iload cx.1 cx.2.1 dX12_fits_39 (lv_at hl 0 rfl) ?_
        refine z_jn hf (fun j => ∀ (x72_4 : Int) (h : HF) (H : Heap) (locs : List Loc) (ls : Array Slot), rng x72_4 → Hp g B s h H locs → lv_has ls 6 [(0, .ref (B + u0)), (1, .int (ii u1)), (2, .int (ii u2)), (4, .int (ii x72_4))] → j x72_4 h = some o → W p l e (rmn 1) s m args below meth c H locs 0 0 Q (F0 m 72 ls [])) ?_ (fun j72 hj72 hf => ?_)
        · intro x72_4 h H locs ls rx72_4 hp hl hf
          refine z_iconst cx dX12_fits_72 ?_
          refine lv_goto (tgt := 77) cx.1 cx.2.1 dX12_fits_73 (by decide) ?_
          exact hj77 x72_4 1 h _ _ ls rx72_4 (by decide) hp (lv_sub hl [0, 1, 2, 3] rfl) hf
        refine z_if_lt cx rx4 (tgt := 72) dX12_fits_41 (by decide) hf (fun _ hf => ?_) (fun _ hf => ?_)
        · exact hj72 v4 h _ _ ls rv4 hp (lv_sub hl [1, 2, 3, 5] rfl) hf
        · refine lv_iload cx.1 cx.2.1 dX12_fits_44 (lv_at hl 0 rfl) ?_
          refine lv_aload_n cx.1 cx.2.1 dX12_fits_46 rfl (lv_at hl 1 rfl) ?_
          refine z_gets cx hp (T := TX12) 12 7 (u0 + 4) rfl zin_12 (by decide) (by decide) ru0 rfl fl_X12_19 dX12_fits_47 ?_
          refine lv_iload_n cx.1 cx.2.1 dX12_fits_50 rfl (lv_at hl 2 rfl) ?_
          refine z_iald cx hp (zs_12_7 u0 (kt_lt ru0 (by decide)) ru0) ru1 dX12_fits_51 hf (fun x6 rx6 hf => ?_)
          refine z_icmp_ge cx rx4 rx6 (tgt := 76) dX12_fits_52 (by decide) hf (fun _ hf => ?_) (fun _ hf => ?_)
          · refine lv_aload_n cx.1 cx.2.1 dX12_fits_55 rfl (lv_at hl 1 rfl) ?_
            refine lv_iload_n cx.1 cx.2.1 dX12_fits_56 rfl (lv_at hl 2 rfl) ?_
            refine lv_iload cx.1 cx.2.1 dX12_fits_57 (lv_at hl 0 rfl) ?_
            refine z_ci cx hp (fun o' hx => zrunV (n := 1) (As := [.int (ii u1), .int (ii x4)]) (rest := []) cx hp (mX12_arity F l g B h u0 u1 x4 ru0 ru1 rx4 o' hx) 12 ru0 (by decide) rfl vw_X12_arity ml_X12_129 (by decide) rfl hl.1 rfl (Nat.le_of_ble_eq_true rfl) dX12_fits_59) hf (fun r7 h H locs rr7 hp hf => ?_)
            refine lv_aload_n cx.1 cx.2.1 dX12_fits_62 rfl (lv_at hl 1 rfl) ?_
            refine z_gets cx hp (T := TX12) 12 20 (u0 + 14) rfl zin_12 (by decide) (by decide) ru0 rfl fl_X12_49 dX12_fits_63 ?_
            refine lv_iload cx.1 cx.2.1 dX12_fits_66 (lv_at hl 5 rfl) ?_
            refine z_iald cx hp (zs_12_20 u0 (kt_lt ru0 (by decide)) ru0) rv4 dX12_fits_68 hf (fun x8 rx8 hf => ?_)
            refine z_icmp_ne cx rr7 rx8 (tgt := 76) dX12_fits_69 (by decide) hf (fun _ hf => ?_) (fun _ hf => ?_)
            · exact hj72 v4 h _ _ ls rv4 hp (lv_sub hl [1, 2, 3, 5] rfl) hf
            · exact hj76 v4 h _ _ ls rv4 hp (lv_sub hl [1, 2, 3, 5] rfl) hf
          · exact hj76 v4 h _ _ ls rv4 hp (lv_sub hl [1, 2, 3, 5] rfl) hf
    · exact hk84 v3 h _ _ ls rv3 hp (lv_sub hl [3] rfl) hf
def fX12_fits (F : Nat) (a0 : Nat) (a1 : Int) (a2 : Int) (h : HF) : RO :=
  zlet (wr (80 * a2)) fun x1 =>
  zjn (fun (x84_3 : Int) (h : HF) => (
    zrz x84_3 h
  )) fun j84 =>
  LX12_fits_8 F a0 a1 a2 j84 F 1 x1 h
set_option maxHeartbeats 4000000 in
set_option maxRecDepth 100000 in
theorem mX12_fits (F : Nat) (l : Launch) (g : zG) (B : Nat) (h : HF) (a0 : Nat) (a1 : Int) (a2 : Int) (ra0 : kt a0 = 15) (ra1 : rng a1) (ra2 : rng a2) : CTi l g B yX12_fits cX12_fits 6 (some .boolean) 1 [.ref (B + a0), .int (ii a1), .int (ii a2)] h (fX12_fits F a0 a1 a2 h) := by
  refine z_enterI (by decide) rfl (Nat.le_of_ble_eq_true rfl) ?_
  intro p e s m args below meth c ls o Q cx hp hl hf hQ
  have hl : lv_has ls 6 [(0, .ref (B + a0)), (1, .int (ii a1)), (2, .int (ii a2))] := hl
  unfold fX12_fits at hf
  refine z_iconst cx dX12_fits_0 ?_
  refine lv_istore_n (lv' := [(3, .int (ii 1)), (0, .ref (B + a0)), (1, .int (ii a1)), (2, .int (ii a2))]) cx.1 cx.2.1 dX12_fits_1 rfl hl (by decide) rfl (fun ls hl => ?_)
  refine z_bipush cx (by decide) dX12_fits_2 ?_
  refine lv_iload_n cx.1 cx.2.1 dX12_fits_4 rfl (lv_at hl 3 rfl) ?_
  refine z_imul cx dX12_fits_5 ?_
  refine z_let (rng_wr _) hf (fun x1 rx1 hf => ?_)
  refine lv_istore (lv' := [(4, .int (ii x1)), (3, .int (ii 1)), (0, .ref (B + a0)), (1, .int (ii a1)), (2, .int (ii a2))]) cx.1 cx.2.1 dX12_fits_6 hl (by decide) rfl (fun ls hl => ?_)
  refine z_jn hf (fun j => ∀ (x84_3 : Int) (h : HF) (H : Heap) (locs : List Loc) (ls : Array Slot), rng x84_3 → Hp g B s h H locs → lv_has ls 6 [(3, .int (ii x84_3))] → j x84_3 h = some o → W p l e (rmn 1) s m args below meth c H locs 0 0 Q (F0 m 84 ls [])) ?_ (fun j84 hj84 hf => ?_)
  · intro x84_3 h H locs ls rx84_3 hp hl hf
    refine lv_iload_n cx.1 cx.2.1 dX12_fits_84 rfl (lv_at hl 0 rfl) ?_
    rw [hQ]; exact z_zret cx hp dX12_fits_85 hf
  exact wX12_fits_8 F cx a0 ra0 a1 ra1 a2 ra2 j84 hj84 F 1 x1 h _ _ ls (by decide) rx1 hp (lv_sub hl [2, 3, 4, 1, 0] rfl) hf
theorem dX12_worth_0 : decode cX12_worth 0 = .ok (.bipush 80, 2) := by decide +kernel
theorem dX12_worth_2 : decode cX12_worth 2 = .ok (.iload_n 2, 1) := by decide +kernel
theorem dX12_worth_3 : decode cX12_worth 3 = .ok (.imul, 1) := by decide +kernel
theorem dX12_worth_4 : decode cX12_worth 4 = .ok (.iload_n 3, 1) := by decide +kernel
theorem dX12_worth_5 : decode cX12_worth 5 = .ok (.iadd, 1) := by decide +kernel
theorem dX12_worth_6 : decode cX12_worth 6 = .ok (.istore 4, 2) := by decide +kernel
theorem dX12_worth_8 : decode cX12_worth 8 = .ok (.aload_n 0, 1) := by decide +kernel
theorem dX12_worth_9 : decode cX12_worth 9 = .ok (.getfield 46, 3) := by decide +kernel
theorem dX12_worth_12 : decode cX12_worth 12 = .ok (.iload 4, 2) := by decide +kernel
theorem dX12_worth_14 : decode cX12_worth 14 = .ok (.iaload, 1) := by decide +kernel
theorem dX12_worth_15 : decode cX12_worth 15 = .ok (.istore 5, 2) := by decide +kernel
theorem dX12_worth_17 : decode cX12_worth 17 = .ok (.iload 5, 2) := by decide +kernel
theorem dX12_worth_19 : decode cX12_worth 19 = .ok (.iconst 3, 1) := by decide +kernel
theorem dX12_worth_20 : decode cX12_worth 20 = .ok (.if_icmp .ge 33, 3) := by decide +kernel
theorem dX12_worth_23 : decode cX12_worth 23 = .ok (.iload 5, 2) := by decide +kernel
theorem dX12_worth_25 : decode cX12_worth 25 = .ok (.ifCond .ne 10, 3) := by decide +kernel
theorem dX12_worth_28 : decode cX12_worth 28 = .ok (.aload_n 0, 1) := by decide +kernel
theorem dX12_worth_29 : decode cX12_worth 29 = .ok (.getfield 256, 3) := by decide +kernel
theorem dX12_worth_32 : decode cX12_worth 32 = .ok (.goto 20, 3) := by decide +kernel
theorem dX12_worth_35 : decode cX12_worth 35 = .ok (.iload 5, 2) := by decide +kernel
theorem dX12_worth_37 : decode cX12_worth 37 = .ok (.iconst 1, 1) := by decide +kernel
theorem dX12_worth_38 : decode cX12_worth 38 = .ok (.if_icmp .ne 10, 3) := by decide +kernel
theorem dX12_worth_41 : decode cX12_worth 41 = .ok (.aload_n 0, 1) := by decide +kernel
theorem dX12_worth_42 : decode cX12_worth 42 = .ok (.getfield 259, 3) := by decide +kernel
theorem dX12_worth_45 : decode cX12_worth 45 = .ok (.goto 7, 3) := by decide +kernel
theorem dX12_worth_48 : decode cX12_worth 48 = .ok (.aload_n 0, 1) := by decide +kernel
theorem dX12_worth_49 : decode cX12_worth 49 = .ok (.getfield 262, 3) := by decide +kernel
theorem dX12_worth_52 : decode cX12_worth 52 = .ok (.ireturn, 1) := by decide +kernel
theorem dX12_worth_53 : decode cX12_worth 53 = .ok (.aload_n 0, 1) := by decide +kernel
theorem dX12_worth_54 : decode cX12_worth 54 = .ok (.getfield 49, 3) := by decide +kernel
theorem dX12_worth_57 : decode cX12_worth 57 = .ok (.iload 4, 2) := by decide +kernel
theorem dX12_worth_59 : decode cX12_worth 59 = .ok (.iaload, 1) := by decide +kernel
theorem dX12_worth_60 : decode cX12_worth 60 = .ok (.ifCond .le 19, 3) := by decide +kernel
theorem dX12_worth_63 : decode cX12_worth 63 = .ok (.aload_n 0, 1) := by decide +kernel
theorem dX12_worth_64 : decode cX12_worth 64 = .ok (.iload_n 1, 1) := by decide +kernel
theorem dX12_worth_65 : decode cX12_worth 65 = .ok (.iload_n 2, 1) := by decide +kernel
theorem dX12_worth_66 : decode cX12_worth 66 = .ok (.aload_n 0, 1) := by decide +kernel
theorem dX12_worth_67 : decode cX12_worth 67 = .ok (.getfield 52, 3) := by decide +kernel
theorem dX12_worth_70 : decode cX12_worth 70 = .ok (.iload 4, 2) := by decide +kernel
theorem dX12_worth_72 : decode cX12_worth 72 = .ok (.iaload, 1) := by decide +kernel
theorem dX12_worth_73 : decode cX12_worth 73 = .ok (.invokevirtual 265, 3) := by decide +kernel
theorem dX12_worth_76 : decode cX12_worth 76 = .ok (.goto 4, 3) := by decide +kernel
theorem dX12_worth_79 : decode cX12_worth 79 = .ok (.iconst 0, 1) := by decide +kernel
theorem dX12_worth_80 : decode cX12_worth 80 = .ok (.istore 6, 2) := by decide +kernel
theorem dX12_worth_82 : decode cX12_worth 82 = .ok (.aload_n 0, 1) := by decide +kernel
theorem dX12_worth_83 : decode cX12_worth 83 = .ok (.getfield 49, 3) := by decide +kernel
theorem dX12_worth_86 : decode cX12_worth 86 = .ok (.iload 4, 2) := by decide +kernel
theorem dX12_worth_88 : decode cX12_worth 88 = .ok (.iaload, 1) := by decide +kernel
theorem dX12_worth_89 : decode cX12_worth 89 = .ok (.iconst 1, 1) := by decide +kernel
theorem dX12_worth_90 : decode cX12_worth 90 = .ok (.if_icmp .le 19, 3) := by decide +kernel
theorem dX12_worth_93 : decode cX12_worth 93 = .ok (.aload_n 0, 1) := by decide +kernel
theorem dX12_worth_94 : decode cX12_worth 94 = .ok (.iload_n 1, 1) := by decide +kernel
theorem dX12_worth_95 : decode cX12_worth 95 = .ok (.iload_n 2, 1) := by decide +kernel
theorem dX12_worth_96 : decode cX12_worth 96 = .ok (.aload_n 0, 1) := by decide +kernel
theorem dX12_worth_97 : decode cX12_worth 97 = .ok (.getfield 55, 3) := by decide +kernel
theorem dX12_worth_100 : decode cX12_worth 100 = .ok (.iload 4, 2) := by decide +kernel
theorem dX12_worth_102 : decode cX12_worth 102 = .ok (.iaload, 1) := by decide +kernel
theorem dX12_worth_103 : decode cX12_worth 103 = .ok (.invokevirtual 265, 3) := by decide +kernel
theorem dX12_worth_106 : decode cX12_worth 106 = .ok (.goto 4, 3) := by decide +kernel
theorem dX12_worth_109 : decode cX12_worth 109 = .ok (.iconst 0, 1) := by decide +kernel
theorem dX12_worth_110 : decode cX12_worth 110 = .ok (.istore 7, 2) := by decide +kernel
theorem dX12_worth_112 : decode cX12_worth 112 = .ok (.aload_n 0, 1) := by decide +kernel
theorem dX12_worth_113 : decode cX12_worth 113 = .ok (.iload_n 1, 1) := by decide +kernel
theorem dX12_worth_114 : decode cX12_worth 114 = .ok (.iload 5, 2) := by decide +kernel
theorem dX12_worth_116 : decode cX12_worth 116 = .ok (.iconst 3, 1) := by decide +kernel
theorem dX12_worth_117 : decode cX12_worth 117 = .ok (.isub, 1) := by decide +kernel
theorem dX12_worth_118 : decode cX12_worth 118 = .ok (.iload 6, 2) := by decide +kernel
theorem dX12_worth_120 : decode cX12_worth 120 = .ok (.iload 7, 2) := by decide +kernel
theorem dX12_worth_122 : decode cX12_worth 122 = .ok (.invokevirtual 178, 3) := by decide +kernel
theorem dX12_worth_125 : decode cX12_worth 125 = .ok (.ireturn, 1) := by decide +kernel
def fX12_worth (F : Nat) : Nat → Nat → Int → Int → Int → HF → RO
  | 0, _, _, _, _, _ => none
  | D + 1, a0, a1, a2, a3, h =>
    zlet (wr ((wr (80 * a2)) + a3)) fun x1 =>
    zrd h (a0 + 13) x1 fun x2 =>
    if x2 < 3 then (
      zjn (fun (y52_0 : Int) (h : HF) => (
        some (y52_0, h)
      )) fun j52 =>
      if x2 = 0 then (
        zgf h a0 37 fun x3 =>
        j52 x3 h
      ) else (
        if x2 = 1 then (
          zgf h a0 38 fun x4 =>
          j52 x4 h
        ) else (
          zgf h a0 39 fun x5 =>
          j52 x5 h
        )
      )
    ) else (
      zrd h (a0 + 14) x1 fun x6 =>
      zjn (fun (x80_4 : Int) (x80_5 : Int) (y80_0 : Int) (h : HF) => (
        zrd h (a0 + 14) x80_4 fun x7 =>
        zjn (fun (x110_5 : Int) (x110_6 : Int) (y110_0 : Int) (h : HF) => (
          zbd (fX12_value F a0 a1 (wr (x110_5 - 3)) x110_6 y110_0 h) fun r8 h =>
          some (r8, h)
        )) fun j110 =>
        if 1 < x7 then (
          zrd h (a0 + 16) x80_4 fun x9 =>
          zbd ((fX12_worth F D) a0 a1 a2 x9 h) fun r10 h =>
          j110 x80_5 y80_0 r10 h
        ) else (
          j110 x80_5 y80_0 0 h
        )
      )) fun j80 =>
      if 0 < x6 then (
        zrd h (a0 + 15) x1 fun x11 =>
        zbd ((fX12_worth F D) a0 a1 a2 x11 h) fun r12 h =>
        j80 x1 x2 r12 h
      ) else (
        j80 x1 x2 0 h
      )
    )
set_option maxHeartbeats 4000000 in
set_option maxRecDepth 100000 in
theorem mX12_worth (F : Nat) (l : Launch) (g : zG) (B : Nat) : ∀ (D : Nat) (h : HF) (a0 : Nat) (a1 : Int) (a2 : Int) (a3 : Int) (ra0 : kt a0 = 15) (ra1 : rng a1) (ra2 : rng a2) (ra3 : rng a3), CTi l g B yX12_worth cX12_worth 8 (some .int) (3 + 1 * D) [.ref (B + a0), .int (ii a1), .int (ii a2), .int (ii a3)] h (fX12_worth F D a0 a1 a2 a3 h) := by
  intro D
  induction D with
  | zero =>
    intro h a0 a1 a2 a3 ra0 ra1 ra2 ra3 o hx
    cases hx
  | succ D ihD =>
    intro h a0 a1 a2 a3 ra0 ra1 ra2 ra3
    refine z_enterI (by decide) rfl (Nat.le_of_ble_eq_true rfl) ?_
    intro p e s m args below meth c ls o Q cx hp hl hf hQ
    have hl : lv_has ls 8 [(0, .ref (B + a0)), (1, .int (ii a1)), (2, .int (ii a2)), (3, .int (ii a3))] := hl
    rw [fX12_worth] at hf
    refine z_bipush cx (by decide) dX12_worth_0 ?_
    refine lv_iload_n cx.1 cx.2.1 dX12_worth_2 rfl (lv_at hl 2 rfl) ?_
    refine z_imul cx dX12_worth_3 ?_
    refine lv_iload_n cx.1 cx.2.1 dX12_worth_4 rfl (lv_at hl 3 rfl) ?_
    refine z_iadd cx dX12_worth_5 ?_
    refine z_let (rng_wr _) hf (fun x1 rx1 hf => ?_)
    refine lv_istore (lv' := [(4, .int (ii x1)), (0, .ref (B + a0)), (1, .int (ii a1)), (2, .int (ii a2)), (3, .int (ii a3))]) cx.1 cx.2.1 dX12_worth_6 hl (by decide) rfl (fun ls hl => ?_)
    refine lv_aload_n cx.1 cx.2.1 dX12_worth_8 rfl (lv_at hl 1 rfl) ?_
    refine z_gets cx hp (T := TX12) 12 19 (a0 + 13) rfl zin_12 (by decide) (by decide) ra0 rfl fl_X12_46 dX12_worth_9 ?_
    refine lv_iload cx.1 cx.2.1 dX12_worth_12 (lv_at hl 0 rfl) ?_
    refine z_iald cx hp (zs_12_19 a0 (kt_lt ra0 (by decide)) ra0) rx1 dX12_worth_14 hf (fun x2 rx2 hf => ?_)
    refine lv_istore (lv' := [(5, .int (ii x2)), (4, .int (ii x1)), (0, .ref (B + a0)), (1, .int (ii a1)), (2, .int (ii a2)), (3, .int (ii a3))]) cx.1 cx.2.1 dX12_worth_15 hl (by decide) rfl (fun ls hl => ?_)
    refine lv_iload cx.1 cx.2.1 dX12_worth_17 (lv_at hl 0 rfl) ?_
    refine z_iconst cx dX12_worth_19 ?_
    refine z_icmp_ge cx rx2 (by decide) (tgt := 53) dX12_worth_20 (by decide) hf (fun _ hf => ?_) (fun _ hf => ?_)
    · refine lv_iload cx.1 cx.2.1 dX12_worth_23 (lv_at hl 0 rfl) ?_
      refine z_jn hf (fun j => ∀ (y52_0 : Int) (h : HF) (H : Heap) (locs : List Loc) (ls : Array Slot), rng y52_0 → Hp g B s h H locs → lv_has ls 8 [] → j y52_0 h = some o → W p l e (rmn (3 + 1 * (D + 1))) s m args below meth c H locs 0 0 Q (F0 m 52 ls [.int (ii y52_0)])) ?_ (fun j52 hj52 hf => ?_)
      · intro y52_0 h H locs ls ry52_0 hp hl hf
        rw [hQ]; exact z_iret cx hp ry52_0 dX12_worth_52 hf
      refine z_if_ne cx rx2 (tgt := 35) dX12_worth_25 (by decide) hf (fun _ hf => ?_) (fun _ hf => ?_)
      · refine lv_aload_n cx.1 cx.2.1 dX12_worth_28 rfl (lv_at hl 2 rfl) ?_
        refine z_geti cx hp (T := TX12) 12 37 rfl zin_12 (by decide) (by decide) ra0 rfl fl_X12_256 dX12_worth_29 hf (fun x3 rx3 hf => ?_)
        refine lv_goto (tgt := 52) cx.1 cx.2.1 dX12_worth_32 (by decide) ?_
        exact hj52 x3 h _ _ ls rx3 hp (lv_sub hl [] rfl) hf
      · refine lv_iload cx.1 cx.2.1 dX12_worth_35 (lv_at hl 0 rfl) ?_
        refine z_iconst cx dX12_worth_37 ?_
        refine z_icmp_ne cx rx2 (by decide) (tgt := 48) dX12_worth_38 (by decide) hf (fun _ hf => ?_) (fun _ hf => ?_)
        · refine lv_aload_n cx.1 cx.2.1 dX12_worth_41 rfl (lv_at hl 2 rfl) ?_
          refine z_geti cx hp (T := TX12) 12 38 rfl zin_12 (by decide) (by decide) ra0 rfl fl_X12_259 dX12_worth_42 hf (fun x4 rx4 hf => ?_)
          refine lv_goto (tgt := 52) cx.1 cx.2.1 dX12_worth_45 (by decide) ?_
          exact hj52 x4 h _ _ ls rx4 hp (lv_sub hl [] rfl) hf
        · refine lv_aload_n cx.1 cx.2.1 dX12_worth_48 rfl (lv_at hl 2 rfl) ?_
          refine z_geti cx hp (T := TX12) 12 39 rfl zin_12 (by decide) (by decide) ra0 rfl fl_X12_262 dX12_worth_49 hf (fun x5 rx5 hf => ?_)
          exact hj52 x5 h _ _ ls rx5 hp (lv_sub hl [] rfl) hf
    · refine lv_aload_n cx.1 cx.2.1 dX12_worth_53 rfl (lv_at hl 2 rfl) ?_
      refine z_gets cx hp (T := TX12) 12 20 (a0 + 14) rfl zin_12 (by decide) (by decide) ra0 rfl fl_X12_49 dX12_worth_54 ?_
      refine lv_iload cx.1 cx.2.1 dX12_worth_57 (lv_at hl 1 rfl) ?_
      refine z_iald cx hp (zs_12_20 a0 (kt_lt ra0 (by decide)) ra0) rx1 dX12_worth_59 hf (fun x6 rx6 hf => ?_)
      refine z_jn hf (fun j => ∀ (x80_4 : Int) (x80_5 : Int) (y80_0 : Int) (h : HF) (H : Heap) (locs : List Loc) (ls : Array Slot), rng x80_4 → rng x80_5 → rng y80_0 → Hp g B s h H locs → lv_has ls 8 [(0, .ref (B + a0)), (1, .int (ii a1)), (2, .int (ii a2)), (4, .int (ii x80_4)), (5, .int (ii x80_5))] → j x80_4 x80_5 y80_0 h = some o → W p l e (rmn (3 + 1 * (D + 1))) s m args below meth c H locs 0 0 Q (F0 m 80 ls [.int (ii y80_0)])) ?_ (fun j80 hj80 hf => ?_)
      · intro x80_4 x80_5 y80_0 h H locs ls rx80_4 rx80_5 ry80_0 hp hl hf
        refine lv_istore (lv' := [(6, .int (ii y80_0)), (0, .ref (B + a0)), (1, .int (ii a1)), (2, .int (ii a2)), (4, .int (ii x80_4)), (5, .int (ii x80_5))]) cx.1 cx.2.1 dX12_worth_80 hl (by decide) rfl (fun ls hl => ?_)
        refine lv_aload_n cx.1 cx.2.1 dX12_worth_82 rfl (lv_at hl 1 rfl) ?_
        refine z_gets cx hp (T := TX12) 12 20 (a0 + 14) rfl zin_12 (by decide) (by decide) ra0 rfl fl_X12_49 dX12_worth_83 ?_
        refine lv_iload cx.1 cx.2.1 dX12_worth_86 (lv_at hl 4 rfl) ?_
        refine z_iald cx hp (zs_12_20 a0 (kt_lt ra0 (by decide)) ra0) rx80_4 dX12_worth_88 hf (fun x7 rx7 hf => ?_)
        refine z_iconst cx dX12_worth_89 ?_
        refine z_jn hf (fun j => ∀ (x110_5 : Int) (x110_6 : Int) (y110_0 : Int) (h : HF) (H : Heap) (locs : List Loc) (ls : Array Slot), rng x110_5 → rng x110_6 → rng y110_0 → Hp g B s h H locs → lv_has ls 8 [(0, .ref (B + a0)), (1, .int (ii a1)), (5, .int (ii x110_5)), (6, .int (ii x110_6))] → j x110_5 x110_6 y110_0 h = some o → W p l e (rmn (3 + 1 * (D + 1))) s m args below meth c H locs 0 0 Q (F0 m 110 ls [.int (ii y110_0)])) ?_ (fun j110 hj110 hf => ?_)
        · intro x110_5 x110_6 y110_0 h H locs ls rx110_5 rx110_6 ry110_0 hp hl hf
          refine lv_istore (lv' := [(7, .int (ii y110_0)), (0, .ref (B + a0)), (1, .int (ii a1)), (5, .int (ii x110_5)), (6, .int (ii x110_6))]) cx.1 cx.2.1 dX12_worth_110 hl (by decide) rfl (fun ls hl => ?_)
          refine lv_aload_n cx.1 cx.2.1 dX12_worth_112 rfl (lv_at hl 1 rfl) ?_
          refine lv_iload_n cx.1 cx.2.1 dX12_worth_113 rfl (lv_at hl 2 rfl) ?_
          refine lv_iload cx.1 cx.2.1 dX12_worth_114 (lv_at hl 3 rfl) ?_
          refine z_iconst cx dX12_worth_116 ?_
          refine z_isub cx dX12_worth_117 ?_
          refine lv_iload cx.1 cx.2.1 dX12_worth_118 (lv_at hl 4 rfl) ?_
          refine lv_iload cx.1 cx.2.1 dX12_worth_120 (lv_at hl 0 rfl) ?_
          refine z_ci cx hp (fun o' hx => zrunV (n := (3 + 1 * (D + 1))) (As := [.int (ii a1), .int (ii (wr (x110_5 - 3))), .int (ii x110_6), .int (ii y110_0)]) (rest := []) cx hp (mX12_value F l g B h a0 a1 (wr (x110_5 - 3)) x110_6 y110_0 ra0 ra1 (rng_wr _) rx110_6 ry110_0 o' hx) 12 ra0 (by decide) rfl vw_X12_value ml_X12_178 (by omega) rfl hl.1 rfl (Nat.le_of_ble_eq_true rfl) dX12_worth_122) hf (fun r8 h H locs rr8 hp hf => ?_)
          rw [hQ]; exact z_iret cx hp rr8 dX12_worth_125 hf
        refine z_icmp_le cx rx7 (by decide) (tgt := 109) dX12_worth_90 (by decide) hf (fun _ hf => ?_) (fun _ hf => ?_)
        · refine lv_aload_n cx.1 cx.2.1 dX12_worth_93 rfl (lv_at hl 1 rfl) ?_
          refine lv_iload_n cx.1 cx.2.1 dX12_worth_94 rfl (lv_at hl 2 rfl) ?_
          refine lv_iload_n cx.1 cx.2.1 dX12_worth_95 rfl (lv_at hl 3 rfl) ?_
          refine lv_aload_n cx.1 cx.2.1 dX12_worth_96 rfl (lv_at hl 1 rfl) ?_
          refine z_gets cx hp (T := TX12) 12 22 (a0 + 16) rfl zin_12 (by decide) (by decide) ra0 rfl fl_X12_55 dX12_worth_97 ?_
          refine lv_iload cx.1 cx.2.1 dX12_worth_100 (lv_at hl 4 rfl) ?_
          refine z_iald cx hp (zs_12_22 a0 (kt_lt ra0 (by decide)) ra0) rx80_4 dX12_worth_102 hf (fun x9 rx9 hf => ?_)
          refine z_ci cx hp (fun o' hx => zrunV (n := (3 + 1 * (D + 1))) (As := [.int (ii a1), .int (ii a2), .int (ii x9)]) (rest := []) cx hp (ihD h a0 a1 a2 x9 ra0 ra1 ra2 rx9 o' hx) 12 ra0 (by decide) rfl vw_X12_worth ml_X12_265 (by omega) rfl hl.1 rfl (Nat.le_of_ble_eq_true rfl) dX12_worth_103) hf (fun r10 h H locs rr10 hp hf => ?_)
          refine lv_goto (tgt := 110) cx.1 cx.2.1 dX12_worth_106 (by decide) ?_
          exact hj110 x80_5 y80_0 r10 h _ _ ls rx80_5 ry80_0 rr10 hp (lv_sub hl [1, 2, 5, 0] rfl) hf
        · refine z_iconst cx dX12_worth_109 ?_
          exact hj110 x80_5 y80_0 0 h _ _ ls rx80_5 ry80_0 (by decide) hp (lv_sub hl [1, 2, 5, 0] rfl) hf
      refine z_if_le cx rx6 (tgt := 79) dX12_worth_60 (by decide) hf (fun _ hf => ?_) (fun _ hf => ?_)
      · refine lv_aload_n cx.1 cx.2.1 dX12_worth_63 rfl (lv_at hl 2 rfl) ?_
        refine lv_iload_n cx.1 cx.2.1 dX12_worth_64 rfl (lv_at hl 3 rfl) ?_
        refine lv_iload_n cx.1 cx.2.1 dX12_worth_65 rfl (lv_at hl 4 rfl) ?_
        refine lv_aload_n cx.1 cx.2.1 dX12_worth_66 rfl (lv_at hl 2 rfl) ?_
        refine z_gets cx hp (T := TX12) 12 21 (a0 + 15) rfl zin_12 (by decide) (by decide) ra0 rfl fl_X12_52 dX12_worth_67 ?_
        refine lv_iload cx.1 cx.2.1 dX12_worth_70 (lv_at hl 1 rfl) ?_
        refine z_iald cx hp (zs_12_21 a0 (kt_lt ra0 (by decide)) ra0) rx1 dX12_worth_72 hf (fun x11 rx11 hf => ?_)
        refine z_ci cx hp (fun o' hx => zrunV (n := (3 + 1 * (D + 1))) (As := [.int (ii a1), .int (ii a2), .int (ii x11)]) (rest := []) cx hp (ihD h a0 a1 a2 x11 ra0 ra1 ra2 rx11 o' hx) 12 ra0 (by decide) rfl vw_X12_worth ml_X12_265 (by omega) rfl hl.1 rfl (Nat.le_of_ble_eq_true rfl) dX12_worth_73) hf (fun r12 h H locs rr12 hp hf => ?_)
        refine lv_goto (tgt := 80) cx.1 cx.2.1 dX12_worth_76 (by decide) ?_
        exact hj80 x1 x2 r12 h _ _ ls rx1 rx2 rr12 hp (lv_sub hl [2, 3, 4, 1, 0] rfl) hf
      · refine z_iconst cx dX12_worth_79 ?_
        exact hj80 x1 x2 0 h _ _ ls rx1 rx2 (by decide) hp (lv_sub hl [2, 3, 4, 1, 0] rfl) hf
