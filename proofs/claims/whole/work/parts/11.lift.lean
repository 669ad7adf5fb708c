theorem dX6_swap_0 : decode cX6_swap 0 = .ok (.aload_n 0, 1) := by decide +kernel
theorem dX6_swap_1 : decode cX6_swap 1 = .ok (.getfield 18, 3) := by decide +kernel
theorem dX6_swap_4 : decode cX6_swap 4 = .ok (.iload_n 1, 1) := by decide +kernel
theorem dX6_swap_5 : decode cX6_swap 5 = .ok (.iaload, 1) := by decide +kernel
theorem dX6_swap_6 : decode cX6_swap 6 = .ok (.istore_n 3, 1) := by decide +kernel
theorem dX6_swap_7 : decode cX6_swap 7 = .ok (.aload_n 0, 1) := by decide +kernel
theorem dX6_swap_8 : decode cX6_swap 8 = .ok (.getfield 18, 3) := by decide +kernel
theorem dX6_swap_11 : decode cX6_swap 11 = .ok (.iload_n 1, 1) := by decide +kernel
theorem dX6_swap_12 : decode cX6_swap 12 = .ok (.aload_n 0, 1) := by decide +kernel
theorem dX6_swap_13 : decode cX6_swap 13 = .ok (.getfield 18, 3) := by decide +kernel
theorem dX6_swap_16 : decode cX6_swap 16 = .ok (.iload_n 2, 1) := by decide +kernel
theorem dX6_swap_17 : decode cX6_swap 17 = .ok (.iaload, 1) := by decide +kernel
theorem dX6_swap_18 : decode cX6_swap 18 = .ok (.iastore, 1) := by decide +kernel
theorem dX6_swap_19 : decode cX6_swap 19 = .ok (.aload_n 0, 1) := by decide +kernel
theorem dX6_swap_20 : decode cX6_swap 20 = .ok (.getfield 18, 3) := by decide +kernel
theorem dX6_swap_23 : decode cX6_swap 23 = .ok (.iload_n 2, 1) := by decide +kernel
theorem dX6_swap_24 : decode cX6_swap 24 = .ok (.iload_n 3, 1) := by decide +kernel
theorem dX6_swap_25 : decode cX6_swap 25 = .ok (.iastore, 1) := by decide +kernel
theorem dX6_swap_26 : decode cX6_swap 26 = .ok (.return_, 1) := by decide +kernel
def fX6_swap (F : Nat) (a0 : Nat) (a1 : Int) (a2 : Int) (h : HF) : RO :=
  zrd h (a0 + 3) a1 fun x1 =>
  zrd h (a0 + 3) a2 fun x2 =>
  zwr h (a0 + 3) a1 x2 fun h =>
  zwr h (a0 + 3) a2 x1 fun h =>
  some (0, h)
set_option maxHeartbeats 4000000 in
set_option maxRecDepth 100000 in
theorem mX6_swap (F : Nat) (l : Launch) (g : zG) (B : Nat) (h : HF) (a0 : Nat) (a1 : Int) (a2 : Int) (ra0 : kt a0 = 9) (ra1 : rng a1) (ra2 : rng a2) : CTv l g B yX6_swap cX6_swap 4 0 [.ref (B + a0), .int (ii a1), .int (ii a2)] h (fX6_swap F a0 a1 a2 h) := by
  refine z_enterV (by decide) rfl (Nat.le_of_ble_eq_true rfl) ?_
  intro p e s m args below meth c ls o Q cx hp hl hf hQ
  have hl : lv_has ls 4 [(0, .ref (B + a0)), (1, .int (ii a1)), (2, .int (ii a2))] := hl
  unfold fX6_swap at hf
  refine lv_aload_n cx.1 cx.2.1 dX6_swap_0 rfl (lv_at hl 0 rfl) ?_
  refine z_gets cx hp (T := TX6) 6 4 (a0 + 3) rfl zin_6 (by decide) (by decide) ra0 rfl fl_X6_18 dX6_swap_1 ?_
  refine lv_iload_n cx.1 cx.2.1 dX6_swap_4 rfl (lv_at hl 1 rfl) ?_
  refine z_iald cx hp (zs_6_4 a0 (kt_lt ra0 (by decide)) ra0) ra1 dX6_swap_5 hf (fun x1 rx1 hf => ?_)
  refine lv_istore_n (lv' := [(3, .int (ii x1)), (0, .ref (B + a0)), (1, .int (ii a1)), (2, .int (ii a2))]) cx.1 cx.2.1 dX6_swap_6 rfl hl (by decide) rfl (fun ls hl => ?_)
  refine lv_aload_n cx.1 cx.2.1 dX6_swap_7 rfl (lv_at hl 1 rfl) ?_
  refine z_gets cx hp (T := TX6) 6 4 (a0 + 3) rfl zin_6 (by decide) (by decide) ra0 rfl fl_X6_18 dX6_swap_8 ?_
  refine lv_iload_n cx.1 cx.2.1 dX6_swap_11 rfl (lv_at hl 2 rfl) ?_
  refine lv_aload_n cx.1 cx.2.1 dX6_swap_12 rfl (lv_at hl 1 rfl) ?_
  refine z_gets cx hp (T := TX6) 6 4 (a0 + 3) rfl zin_6 (by decide) (by decide) ra0 rfl fl_X6_18 dX6_swap_13 ?_
  refine lv_iload_n cx.1 cx.2.1 dX6_swap_16 rfl (lv_at hl 3 rfl) ?_
  refine z_iald cx hp (zs_6_4 a0 (kt_lt ra0 (by decide)) ra0) ra2 dX6_swap_17 hf (fun x2 rx2 hf => ?_)
  refine z_iast cx hp (zs_6_4 a0 (kt_lt ra0 (by decide)) ra0) ra1 rx2 dX6_swap_18 hf (fun h H locs hp hf => ?_)
  refine lv_aload_n cx.1 cx.2.1 dX6_swap_19 rfl (lv_at hl 1 rfl) ?_
  refine z_gets cx hp (T := TX6) 6 4 (a0 + 3) rfl zin_6 (by decide) (by decide) ra0 rfl fl_X6_18 dX6_swap_20 ?_
  refine lv_iload_n cx.1 cx.2.1 dX6_swap_23 rfl (lv_at hl 3 rfl) ?_
  refine lv_iload_n cx.1 cx.2.1 dX6_swap_24 rfl (lv_at hl 0 rfl) ?_
  refine z_iast cx hp (zs_6_4 a0 (kt_lt ra0 (by decide)) ra0) ra2 rx1 dX6_swap_25 hf (fun h H locs hp hf => ?_)
  rw [hQ]; exact z_vret cx hp dX6_swap_26 hf
theorem dX7_sortCellsOf_0 : decode cX7_sortCellsOf 0 = .ok (.iconst 0, 1) := by decide +kernel
theorem dX7_sortCellsOf_1 : decode cX7_sortCellsOf 1 = .ok (.istore_n 3, 1) := by decide +kernel
theorem dX7_sortCellsOf_2 : decode cX7_sortCellsOf 2 = .ok (.iload_n 3, 1) := by decide +kernel
theorem dX7_sortCellsOf_3 : decode cX7_sortCellsOf 3 = .ok (.aload_n 0, 1) := by decide +kernel
theorem dX7_sortCellsOf_4 : decode cX7_sortCellsOf 4 = .ok (.getfield 30, 3) := by decide +kernel
theorem dX7_sortCellsOf_7 : decode cX7_sortCellsOf 7 = .ok (.iload_n 1, 1) := by decide +kernel
theorem dX7_sortCellsOf_8 : decode cX7_sortCellsOf 8 = .ok (.invokevirtual 75, 3) := by decide +kernel
theorem dX7_sortCellsOf_11 : decode cX7_sortCellsOf 11 = .ok (.if_icmp .ge 111, 3) := by decide +kernel
theorem dX7_sortCellsOf_14 : decode cX7_sortCellsOf 14 = .ok (.iconst 0, 1) := by decide +kernel
theorem dX7_sortCellsOf_15 : decode cX7_sortCellsOf 15 = .ok (.istore 4, 2) := by decide +kernel
theorem dX7_sortCellsOf_17 : decode cX7_sortCellsOf 17 = .ok (.iload 4, 2) := by decide +kernel
theorem dX7_sortCellsOf_19 : decode cX7_sortCellsOf 19 = .ok (.aload_n 0, 1) := by decide +kernel
theorem dX7_sortCellsOf_20 : decode cX7_sortCellsOf 20 = .ok (.getfield 30, 3) := by decide +kernel
theorem dX7_sortCellsOf_23 : decode cX7_sortCellsOf 23 = .ok (.iload_n 1, 1) := by decide +kernel
theorem dX7_sortCellsOf_24 : decode cX7_sortCellsOf 24 = .ok (.invokevirtual 79, 3) := by decide +kernel
theorem dX7_sortCellsOf_27 : decode cX7_sortCellsOf 27 = .ok (.if_icmp .ge 89, 3) := by decide +kernel
theorem dX7_sortCellsOf_30 : decode cX7_sortCellsOf 30 = .ok (.aload_n 0, 1) := by decide +kernel
theorem dX7_sortCellsOf_31 : decode cX7_sortCellsOf 31 = .ok (.getfield 30, 3) := by decide +kernel
theorem dX7_sortCellsOf_34 : decode cX7_sortCellsOf 34 = .ok (.iload_n 1, 1) := by decide +kernel
theorem dX7_sortCellsOf_35 : decode cX7_sortCellsOf 35 = .ok (.iload_n 3, 1) := by decide +kernel
theorem dX7_sortCellsOf_36 : decode cX7_sortCellsOf 36 = .ok (.iload 4, 2) := by decide +kernel
theorem dX7_sortCellsOf_38 : decode cX7_sortCellsOf 38 = .ok (.invokevirtual 82, 3) := by decide +kernel
theorem dX7_sortCellsOf_41 : decode cX7_sortCellsOf 41 = .ok (.istore 5, 2) := by decide +kernel
theorem dX7_sortCellsOf_43 : decode cX7_sortCellsOf 43 = .ok (.iload 5, 2) := by decide +kernel
theorem dX7_sortCellsOf_45 : decode cX7_sortCellsOf 45 = .ok (.iload_n 3, 1) := by decide +kernel
theorem dX7_sortCellsOf_46 : decode cX7_sortCellsOf 46 = .ok (.iload 4, 2) := by decide +kernel
theorem dX7_sortCellsOf_48 : decode cX7_sortCellsOf 48 = .ok (.invokestatic 86, 3) := by decide +kernel
theorem dX7_sortCellsOf_51 : decode cX7_sortCellsOf 51 = .ok (.invokestatic 86, 3) := by decide +kernel
theorem dX7_sortCellsOf_54 : decode cX7_sortCellsOf 54 = .ok (.iload_n 2, 1) := by decide +kernel
theorem dX7_sortCellsOf_55 : decode cX7_sortCellsOf 55 = .ok (.if_icmp .ne 55, 3) := by decide +kernel
theorem dX7_sortCellsOf_58 : decode cX7_sortCellsOf 58 = .ok (.aload_n 0, 1) := by decide +kernel
theorem dX7_sortCellsOf_59 : decode cX7_sortCellsOf 59 = .ok (.getfield 15, 3) := by decide +kernel
theorem dX7_sortCellsOf_62 : decode cX7_sortCellsOf 62 = .ok (.aload_n 0, 1) := by decide +kernel
theorem dX7_sortCellsOf_63 : decode cX7_sortCellsOf 63 = .ok (.getfield 61, 3) := by decide +kernel
theorem dX7_sortCellsOf_66 : decode cX7_sortCellsOf 66 = .ok (.iload_n 1, 1) := by decide +kernel
theorem dX7_sortCellsOf_67 : decode cX7_sortCellsOf 67 = .ok (.iastore, 1) := by decide +kernel
theorem dX7_sortCellsOf_68 : decode cX7_sortCellsOf 68 = .ok (.aload_n 0, 1) := by decide +kernel
theorem dX7_sortCellsOf_69 : decode cX7_sortCellsOf 69 = .ok (.getfield 18, 3) := by decide +kernel
theorem dX7_sortCellsOf_72 : decode cX7_sortCellsOf 72 = .ok (.aload_n 0, 1) := by decide +kernel
theorem dX7_sortCellsOf_73 : decode cX7_sortCellsOf 73 = .ok (.getfield 61, 3) := by decide +kernel
theorem dX7_sortCellsOf_76 : decode cX7_sortCellsOf 76 = .ok (.iload_n 3, 1) := by decide +kernel
theorem dX7_sortCellsOf_77 : decode cX7_sortCellsOf 77 = .ok (.iastore, 1) := by decide +kernel
theorem dX7_sortCellsOf_78 : decode cX7_sortCellsOf 78 = .ok (.aload_n 0, 1) := by decide +kernel
theorem dX7_sortCellsOf_79 : decode cX7_sortCellsOf 79 = .ok (.getfield 21, 3) := by decide +kernel
theorem dX7_sortCellsOf_82 : decode cX7_sortCellsOf 82 = .ok (.aload_n 0, 1) := by decide +kernel
theorem dX7_sortCellsOf_83 : decode cX7_sortCellsOf 83 = .ok (.getfield 61, 3) := by decide +kernel
theorem dX7_sortCellsOf_86 : decode cX7_sortCellsOf 86 = .ok (.iload 4, 2) := by decide +kernel
theorem dX7_sortCellsOf_88 : decode cX7_sortCellsOf 88 = .ok (.iastore, 1) := by decide +kernel
theorem dX7_sortCellsOf_89 : decode cX7_sortCellsOf 89 = .ok (.aload_n 0, 1) := by decide +kernel
theorem dX7_sortCellsOf_90 : decode cX7_sortCellsOf 90 = .ok (.getfield 24, 3) := by decide +kernel
theorem dX7_sortCellsOf_93 : decode cX7_sortCellsOf 93 = .ok (.aload_n 0, 1) := by decide +kernel
theorem dX7_sortCellsOf_94 : decode cX7_sortCellsOf 94 = .ok (.getfield 61, 3) := by decide +kernel
theorem dX7_sortCellsOf_97 : decode cX7_sortCellsOf 97 = .ok (.iload 5, 2) := by decide +kernel
theorem dX7_sortCellsOf_99 : decode cX7_sortCellsOf 99 = .ok (.iastore, 1) := by decide +kernel
theorem dX7_sortCellsOf_100 : decode cX7_sortCellsOf 100 = .ok (.aload_n 0, 1) := by decide +kernel
theorem dX7_sortCellsOf_101 : decode cX7_sortCellsOf 101 = .ok (.dup, 1) := by decide +kernel
theorem dX7_sortCellsOf_102 : decode cX7_sortCellsOf 102 = .ok (.getfield 61, 3) := by decide +kernel
theorem dX7_sortCellsOf_105 : decode cX7_sortCellsOf 105 = .ok (.iconst 1, 1) := by decide +kernel
theorem dX7_sortCellsOf_106 : decode cX7_sortCellsOf 106 = .ok (.iadd, 1) := by decide +kernel
theorem dX7_sortCellsOf_107 : decode cX7_sortCellsOf 107 = .ok (.putfield 61, 3) := by decide +kernel
theorem dX7_sortCellsOf_110 : decode cX7_sortCellsOf 110 = .ok (.iinc 4 1, 3) := by decide +kernel
theorem dX7_sortCellsOf_113 : decode cX7_sortCellsOf 113 = .ok (.goto (-96), 3) := by decide +kernel
theorem dX7_sortCellsOf_116 : decode cX7_sortCellsOf 116 = .ok (.iinc 3 1, 3) := by decide +kernel
theorem dX7_sortCellsOf_119 : decode cX7_sortCellsOf 119 = .ok (.goto (-117), 3) := by decide +kernel
theorem dX7_sortCellsOf_122 : decode cX7_sortCellsOf 122 = .ok (.return_, 1) := by decide +kernel
def LX7_sortCellsOf_17 (F : Nat) (u0 : Nat) (u1 : Int) (u2 : Int) (u3 : Int) (k116 : Int → HF → RO) : Nat → Int → HF → RO
  | 0, _, _ => none
  | n + 1, v4, h =>
    zgd h u0 2 fun x4 =>
    zbd (fX0_columns F x4 u1 h) fun r5 h =>
    if v4 < r5 then (
      zgd h u0 2 fun x6 =>
      zbd (fX0_value F x6 u1 u3 v4 h) fun r7 h =>
      zjn (fun (x110_4 : Int) (h : HF) => (
        zlet (wr (x110_4 + 1)) fun x8 =>
        LX7_sortCellsOf_17 F u0 u1 u2 u3 k116 n x8 h
      )) fun j110 =>
      if zmax r7 (zmax u3 v4) = u2 then (
        zgf h u0 14 fun x9 =>
        zwr h (u0 + 2) x9 u1 fun h =>
        zgf h u0 14 fun x10 =>
        zwr h (u0 + 3) x10 u3 fun h =>
        zgf h u0 14 fun x11 =>
        zwr h (u0 + 4) x11 v4 fun h =>
        zgf h u0 14 fun x12 =>
        zwr h (u0 + 5) x12 r7 fun h =>
        zgf h u0 14 fun x13 =>
        zpf h u0 14 (wr (x13 + 1)) fun h =>
        j110 v4 h
      ) else (
        j110 v4 h
      )
    ) else (
      k116 u3 h
    )
set_option maxHeartbeats 4000000 in
set_option maxRecDepth 100000 in
theorem wX7_sortCellsOf_17 {p : Program} {l : Launch} {e : Env} {s : State} {m : MethodId} {args : Array Value} {below : List Frame} {meth : Method} {c : Code} {Q : State → Prop} {g : zG} {B : Nat} {o : Int × HF} (F : Nat) (cx : Cx p s m args meth c cX7_sortCellsOf 6 RX7 none g B) (u0 : Nat) (ru0 : kt u0 = 10) (u1 : Int) (ru1 : rng u1) (u2 : Int) (ru2 : rng u2) (u3 : Int) (ru3 : rng u3) (k116 : Int → HF → RO) (hk116 : ∀ (x3 : Int) (h : HF) (H : Heap) (locs : List Loc) (ls : Array Slot), rng x3 → Hp g B s h H locs → lv_has ls 6 [(0, .ref (B + u0)), (1, .int (ii u1)), (2, .int (ii u2)), (3, .int (ii x3))] → k116 x3 h = some o → W p l e (rmn 2) s m args below meth c H locs 0 0 Q (F0 m 116 ls [])) : ∀ (n : Nat) (v4 : Int) (h : HF) (H : Heap) (locs : List Loc) (ls : Array Slot), rng v4 → Hp g B s h H locs → lv_has ls 6 [(0, .ref (B + u0)), (1, .int (ii u1)), (2, .int (ii u2)), (3, .int (ii u3)), (4, .int (ii v4))] → LX7_sortCellsOf_17 F u0 u1 u2 u3 k116 n v4 h = some o → W p l e (rmn 2) s m args below meth c H locs 0 0 Q (F0 m 17 ls []) := by
  intro n
  induction n with
  | zero =>
    intro v4 h H locs ls rv4 hp hl hf
    cases hf
  | succ n ih =>
    intro v4 h H locs ls rv4 hp hl hf
    rw [LX7_sortCellsOf_17] at hf
    refine lv_iload cx.1 cx.2.1 dX7_sortCellsOf_17 (lv_at hl 4 rfl) ?_
    refine lv_aload_n cx.1 cx.2.1 dX7_sortCellsOf_19 rfl (lv_at hl 0 rfl) ?_
    refine z_getd cx hp (T := TX7) 7 2 3 rfl zin_7 (by decide) (by decide) ru0 rfl fl_X7_30 dX7_sortCellsOf_20 hf (fun x4 rx4 hf => ?_)
    refine lv_iload_n cx.1 cx.2.1 dX7_sortCellsOf_23 rfl (lv_at hl 1 rfl) ?_
    refine z_ci cx hp (fun o' hx => zrunV (n := 2) (As := [.int (ii u1)]) (rest := [.int (ii v4)]) cx hp (mX0_columns F l g B h x4 u1 rx4 ru1 o' hx) 0 rx4 (by decide) rfl vw_X0_columns ml_X7_79 (by decide) rfl hl.1 rfl (Nat.le_of_ble_eq_true rfl) dX7_sortCellsOf_24) hf (fun r5 h H locs rr5 hp hf => ?_)
    refine z_icmp_ge cx rv4 rr5 (tgt := 116) dX7_sortCellsOf_27 (by decide) hf (fun _ hf => ?_) (fun _ hf => ?_)
    · refine lv_aload_n cx.1 cx.2.1 dX7_sortCellsOf_30 rfl (lv_at hl 0 rfl) ?_
      refine z_getd cx hp (T := TX7) 7 2 3 rfl zin_7 (by decide) (by decide) ru0 rfl fl_X7_30 dX7_sortCellsOf_31 hf (fun x6 rx6 hf => ?_)
      refine lv_iload_n cx.1 cx.2.1 dX7_sortCellsOf_34 rfl (lv_at hl 1 rfl) ?_
      refine lv_iload_n cx.1 cx.2.1 dX7_sortCellsOf_35 rfl (lv_at hl 3 rfl) ?_
      refine lv_iload cx.1 cx.2.1 dX7_sortCellsOf_36 (lv_at hl 4 rfl) ?_
      refine z_ci cx hp (fun o' hx => zrunV (n := 2) (As := [.int (ii u1), .int (ii u3), .int (ii v4)]) (rest := []) cx hp (mX0_value F l g B h x6 u1 u3 v4 rx6 ru1 ru3 rv4 o' hx) 0 rx6 (by decide) rfl vw_X0_value ml_X7_82 (by decide) rfl hl.1 rfl (Nat.le_of_ble_eq_true rfl) dX7_sortCellsOf_38) hf (fun r7 h H locs rr7 hp hf => ?_)
      refine lv_istore (lv' := [(5, .int (ii r7)), (0, .ref (B + u0)), (1, .int (ii u1)), (2, .int (ii u2)), (3, .int (ii u3)), (4, .int (ii v4))]) cx.1 cx.2.1 dX7_sortCellsOf_41 hl (by decide) rfl (fun ls hl => ?_)
      refine lv_iload cx.1 cx.2.1 dX7_sortCellsOf_43 (lv_at hl 0 rfl) ?_
      refine lv_iload_n cx.1 cx.2.1 dX7_sortCellsOf_45 rfl (lv_at hl 4 rfl) ?_
      refine lv_iload cx.1 cx.2.1 dX7_sortCellsOf_46 (lv_at hl 5 rfl) ?_
      refine z_mmax cx (n := 2) ru3 rv4 hl.1 (Nat.le_of_ble_eq_true rfl) mx_X7_86 (by decide) dX7_sortCellsOf_48 ?_
      refine z_mmax cx (n := 2) rr7 (rng_max ru3 rv4) hl.1 (Nat.le_of_ble_eq_true rfl) mx_X7_86 (by decide) dX7_sortCellsOf_51 ?_
      refine lv_iload_n cx.1 cx.2.1 dX7_sortCellsOf_54 rfl (lv_at hl 3 rfl) ?_
      refine z_jn hf (fun j => ∀ (x110_4 : Int) (h : HF) (H : Heap) (locs : List Loc) (ls : Array Slot), rng x110_4 → Hp g B s h H locs → lv_has ls 6 [(0, .ref (B + u0)), (1, .int (ii u1)), (2, .int (ii u2)), (3, .int (ii u3)), (4, .int (ii x110_4))] → j x110_4 h = some o → W p l e (rmn 2) s m args below meth c H locs 0 0 Q (F0 m 110 ls [])) ?_ (fun j110 hj110 hf => ?_)
      · intro x110_4 h H locs ls rx110_4 hp hl hf
        refine z_iinc cx (fun x8 => [(4, .int (ii x8)), (0, .ref (B + u0)), (1, .int (ii u1)), (2, .int (ii u2)), (3, .int (ii u3))]) dX7_sortCellsOf_110 hl (k := 4) rfl (by decide) (fun _ => rfl) hf (fun x8 rx8 hf ls hl => ?_)
        refine lv_goto (tgt := 17) cx.1 cx.2.1 dX7_sortCellsOf_113 (by decide) ?_
        exact ih x8 h _ _ ls rx8 hp (lv_sub hl [1, 2, 3, 4, 0] rfl) hf
      refine z_icmp_ne cx (rng_max rr7 (rng_max ru3 rv4)) ru2 (tgt := 110) dX7_sortCellsOf_55 (by decide) hf (fun _ hf => ?_) (fun _ hf => ?_)
      · refine lv_aload_n cx.1 cx.2.1 dX7_sortCellsOf_58 rfl (lv_at hl 1 rfl) ?_
        refine z_gets cx hp (T := TX7) 7 9 (u0 + 2) rfl zin_7 (by decide) (by decide) ru0 rfl fl_X7_15 dX7_sortCellsOf_59 ?_
        refine lv_aload_n cx.1 cx.2.1 dX7_sortCellsOf_62 rfl (lv_at hl 1 rfl) ?_
        refine z_geti cx hp (T := TX7) 7 14 rfl zin_7 (by decide) (by decide) ru0 rfl fl_X7_61 dX7_sortCellsOf_63 hf (fun x9 rx9 hf => ?_)
        refine lv_iload_n cx.1 cx.2.1 dX7_sortCellsOf_66 rfl (lv_at hl 2 rfl) ?_
        refine z_iast cx hp (zs_7_9 u0 (kt_lt ru0 (by decide)) ru0) rx9 ru1 dX7_sortCellsOf_67 hf (fun h H locs hp hf => ?_)
        refine lv_aload_n cx.1 cx.2.1 dX7_sortCellsOf_68 rfl (lv_at hl 1 rfl) ?_
        refine z_gets cx hp (T := TX7) 7 10 (u0 + 3) rfl zin_7 (by decide) (by decide) ru0 rfl fl_X7_18 dX7_sortCellsOf_69 ?_
        refine lv_aload_n cx.1 cx.2.1 dX7_sortCellsOf_72 rfl (lv_at hl 1 rfl) ?_
        refine z_geti cx hp (T := TX7) 7 14 rfl zin_7 (by decide) (by decide) ru0 rfl fl_X7_61 dX7_sortCellsOf_73 hf (fun x10 rx10 hf => ?_)
        refine lv_iload_n cx.1 cx.2.1 dX7_sortCellsOf_76 rfl (lv_at hl 4 rfl) ?_
        refine z_iast cx hp (zs_7_10 u0 (kt_lt ru0 (by decide)) ru0) rx10 ru3 dX7_sortCellsOf_77 hf (fun h H locs hp hf => ?_)
        refine lv_aload_n cx.1 cx.2.1 dX7_sortCellsOf_78 rfl (lv_at hl 1 rfl) ?_
        refine z_gets cx hp (T := TX7) 7 11 (u0 + 4) rfl zin_7 (by decide) (by decide) ru0 rfl fl_X7_21 dX7_sortCellsOf_79 ?_
        refine lv_aload_n cx.1 cx.2.1 dX7_sortCellsOf_82 rfl (lv_at hl 1 rfl) ?_
        refine z_geti cx hp (T := TX7) 7 14 rfl zin_7 (by decide) (by decide) ru0 rfl fl_X7_61 dX7_sortCellsOf_83 hf (fun x11 rx11 hf => ?_)
        refine lv_iload cx.1 cx.2.1 dX7_sortCellsOf_86 (lv_at hl 5 rfl) ?_
        refine z_iast cx hp (zs_7_11 u0 (kt_lt ru0 (by decide)) ru0) rx11 rv4 dX7_sortCellsOf_88 hf (fun h H locs hp hf => ?_)
        refine lv_aload_n cx.1 cx.2.1 dX7_sortCellsOf_89 rfl (lv_at hl 1 rfl) ?_
        refine z_gets cx hp (T := TX7) 7 12 (u0 + 5) rfl zin_7 (by decide) (by decide) ru0 rfl fl_X7_24 dX7_sortCellsOf_90 ?_
        refine lv_aload_n cx.1 cx.2.1 dX7_sortCellsOf_93 rfl (lv_at hl 1 rfl) ?_
        refine z_geti cx hp (T := TX7) 7 14 rfl zin_7 (by decide) (by decide) ru0 rfl fl_X7_61 dX7_sortCellsOf_94 hf (fun x12 rx12 hf => ?_)
        refine lv_iload cx.1 cx.2.1 dX7_sortCellsOf_97 (lv_at hl 0 rfl) ?_
        refine z_iast cx hp (zs_7_12 u0 (kt_lt ru0 (by decide)) ru0) rx12 rr7 dX7_sortCellsOf_99 hf (fun h H locs hp hf => ?_)
        refine lv_aload_n cx.1 cx.2.1 dX7_sortCellsOf_100 rfl (lv_at hl 1 rfl) ?_
        refine lv_dup cx.1 cx.2.1 dX7_sortCellsOf_101 rfl ?_
        refine z_geti cx hp (T := TX7) 7 14 rfl zin_7 (by decide) (by decide) ru0 rfl fl_X7_61 dX7_sortCellsOf_102 hf (fun x13 rx13 hf => ?_)
        refine z_iconst cx dX7_sortCellsOf_105 ?_
        refine z_iadd cx dX7_sortCellsOf_106 ?_
        refine z_puti cx hp (T := TX7) tyX7 tyX7_ok nmX7 7 14 (rng_wr _) rfl zin_7 (by decide) (by decide) ru0 rfl rfl rfl fl_X7_61 dX7_sortCellsOf_107 hf (fun h H locs hp hf => ?_)
        exact hj110 v4 h _ _ ls rv4 hp (lv_sub hl [1, 2, 3, 4, 5] rfl) hf
      · exact hj110 v4 h _ _ ls rv4 hp (lv_sub hl [1, 2, 3, 4, 5] rfl) hf
    · exact hk116 u3 h _ _ ls ru3 hp (lv_sub hl [0, 1, 2, 3] rfl) hf
def LX7_sortCellsOf_2 (F : Nat) (u0 : Nat) (u1 : Int) (u2 : Int) (k122 : HF → RO) : Nat → Int → HF → RO
  | 0, _, _ => none
  | n + 1, v3, h =>
    zgd h u0 2 fun x1 =>
    zbd (fX0_rows F x1 u1 h) fun r2 h =>
    if v3 < r2 then (
      zjn (fun (x116_3 : Int) (h : HF) => (
        zlet (wr (x116_3 + 1)) fun x3 =>
        LX7_sortCellsOf_2 F u0 u1 u2 k122 n x3 h
      )) fun j116 =>
      LX7_sortCellsOf_17 F u0 u1 u2 v3 j116 F 0 h
    ) else (
      k122  h
    )
set_option maxHeartbeats 4000000 in
set_option maxRecDepth 100000 in
theorem wX7_sortCellsOf_2 {p : Program} {l : Launch} {e : Env} {s : State} {m : MethodId} {args : Array Value} {below : List Frame} {meth : Method} {c : Code} {Q : State → Prop} {g : zG} {B : Nat} {o : Int × HF} (F : Nat) (cx : Cx p s m args meth c cX7_sortCellsOf 6 RX7 none g B) (u0 : Nat) (ru0 : kt u0 = 10) (u1 : Int) (ru1 : rng u1) (u2 : Int) (ru2 : rng u2) (k122 : HF → RO) (hk122 : ∀  (h : HF) (H : Heap) (locs : List Loc) (ls : Array Slot), Hp g B s h H locs → lv_has ls 6 [] → k122  h = some o → W p l e (rmn 2) s m args below meth c H locs 0 0 Q (F0 m 122 ls [])) : ∀ (n : Nat) (v3 : Int) (h : HF) (H : Heap) (locs : List Loc) (ls : Array Slot), rng v3 → Hp g B s h H locs → lv_has ls 6 [(0, .ref (B + u0)), (1, .int (ii u1)), (2, .int (ii u2)), (3, .int (ii v3))] → LX7_sortCellsOf_2 F u0 u1 u2 k122 n v3 h = some o → W p l e (rmn 2) s m args below meth c H locs 0 0 Q (F0 m 2 ls []) := by
  intro n
  induction n with
  | zero =>
    intro v3 h H locs ls rv3 hp hl hf
    cases hf
  | succ n ih =>
    intro v3 h H locs ls rv3 hp hl hf
    rw [LX7_sortCellsOf_2] at hf
    refine lv_iload_n cx.1 cx.2.1 dX7_sortCellsOf_2 rfl (lv_at hl 3 rfl) ?_
    refine lv_aload_n cx.1 cx.2.1 dX7_sortCellsOf_3 rfl (lv_at hl 0 rfl) ?_
    refine z_getd cx hp (T := TX7) 7 2 3 rfl zin_7 (by decide) (by decide) ru0 rfl fl_X7_30 dX7_sortCellsOf_4 hf (fun x1 rx1 hf => ?_)
    refine lv_iload_n cx.1 cx.2.1 dX7_sortCellsOf_7 rfl (lv_at hl 1 rfl) ?_
    refine z_ci cx hp (fun o' hx => zrunV (n := 2) (As := [.int (ii u1)]) (rest := [.int (ii v3)]) cx hp (mX0_rows F l g B h x1 u1 rx1 ru1 o' hx) 0 rx1 (by decide) rfl vw_X0_rows ml_X7_75 (by decide) rfl hl.1 rfl (Nat.le_of_ble_eq_true rfl) dX7_sortCellsOf_8) hf (fun r2 h H locs rr2 hp hf => ?_)
    refine z_icmp_ge cx rv3 rr2 (tgt := 122) dX7_sortCellsOf_11 (by decide) hf (fun _ hf => ?_) (fun _ hf => ?_)
    · refine z_iconst cx dX7_sortCellsOf_14 ?_
      refine lv_istore (lv' := [(4, .int (ii 0)), (0, .ref (B + u0)), (1, .int (ii u1)), (2, .int (ii u2)), (3, .int (ii v3))]) cx.1 cx.2.1 dX7_sortCellsOf_15 hl (by decide) rfl (fun ls hl => ?_)
      refine z_jn hf (fun j => ∀ (x116_3 : Int) (h : HF) (H : Heap) (locs : List Loc) (ls : Array Slot), rng x116_3 → Hp g B s h H locs → lv_has ls 6 [(0, .ref (B + u0)), (1, .int (ii u1)), (2, .int (ii u2)), (3, .int (ii x116_3))] → j x116_3 h = some o → W p l e (rmn 2) s m args below meth c H locs 0 0 Q (F0 m 116 ls [])) ?_ (fun j116 hj116 hf => ?_)
      · intro x116_3 h H locs ls rx116_3 hp hl hf
        refine z_iinc cx (fun x3 => [(3, .int (ii x3)), (0, .ref (B + u0)), (1, .int (ii u1)), (2, .int (ii u2))]) dX7_sortCellsOf_116 hl (k := 3) rfl (by decide) (fun _ => rfl) hf (fun x3 rx3 hf ls hl => ?_)
        refine lv_goto (tgt := 2) cx.1 cx.2.1 dX7_sortCellsOf_119 (by decide) ?_
        exact ih x3 h _ _ ls rx3 hp (lv_sub hl [1, 2, 3, 0] rfl) hf
      exact wX7_sortCellsOf_17 F cx u0 ru0 u1 ru1 u2 ru2 v3 rv3 j116 hj116 F 0 h _ _ ls (by decide) hp (lv_sub hl [1, 2, 3, 4, 0] rfl) hf
    · exact hk122  h _ _ ls  hp (lv_sub hl [] rfl) hf
def fX7_sortCellsOf (F : Nat) (a0 : Nat) (a1 : Int) (a2 : Int) (h : HF) : RO :=
  zjn (fun  (h : HF) => (
    some (0, h)
  )) fun j122 =>
  LX7_sortCellsOf_2 F a0 a1 a2 j122 F 0 h
set_option maxHeartbeats 4000000 in
set_option maxRecDepth 100000 in
theorem mX7_sortCellsOf (F : Nat) (l : Launch) (g : zG) (B : Nat) (h : HF) (a0 : Nat) (a1 : Int) (a2 : Int) (ra0 : kt a0 = 10) (ra1 : rng a1) (ra2 : rng a2) : CTv l g B yX7_sortCellsOf cX7_sortCellsOf 6 2 [.ref (B + a0), .int (ii a1), .int (ii a2)] h (fX7_sortCellsOf F a0 a1 a2 h) := by
  refine z_enterV (by decide) rfl (Nat.le_of_ble_eq_true rfl) ?_
  intro p e s m args below meth c ls o Q cx hp hl hf hQ
  have hl : lv_has ls 6 [(0, .ref (B + a0)), (1, .int (ii a1)), (2, .int (ii a2))] := hl
  unfold fX7_sortCellsOf at hf
  refine z_iconst cx dX7_sortCellsOf_0 ?_
  refine lv_istore_n (lv' := [(3, .int (ii 0)), (0, .ref (B + a0)), (1, .int (ii a1)), (2, .int (ii a2))]) cx.1 cx.2.1 dX7_sortCellsOf_1 rfl hl (by decide) rfl (fun ls hl => ?_)
  refine z_jn hf (fun j => ∀  (h : HF) (H : Heap) (locs : List Loc) (ls : Array Slot), Hp g B s h H locs → lv_has ls 6 [] → j  h = some o → W p l e (rmn 2) s m args below meth c H locs 0 0 Q (F0 m 122 ls [])) ?_ (fun j122 hj122 hf => ?_)
  · intro  h H locs ls  hp hl hf
    rw [hQ]; exact z_vret cx hp dX7_sortCellsOf_122 hf
  exact wX7_sortCellsOf_2 F cx a0 ra0 a1 ra1 a2 ra2 j122 hj122 F 0 h _ _ ls (by decide) hp (lv_sub hl [1, 2, 3, 0] rfl) hf
theorem dX7_keepsCells_0 : decode cX7_keepsCells 0 = .ok (.iload_n 1, 1) := by decide +kernel
theorem dX7_keepsCells_1 : decode cX7_keepsCells 1 = .ok (.ifCond .ne 7, 3) := by decide +kernel
theorem dX7_keepsCells_4 : decode cX7_keepsCells 4 = .ok (.iconst 0, 1) := by decide +kernel
theorem dX7_keepsCells_5 : decode cX7_keepsCells 5 = .ok (.goto 11, 3) := by decide +kernel
theorem dX7_keepsCells_8 : decode cX7_keepsCells 8 = .ok (.aload_n 0, 1) := by decide +kernel
theorem dX7_keepsCells_9 : decode cX7_keepsCells 9 = .ok (.getfield 27, 3) := by decide +kernel
theorem dX7_keepsCells_12 : decode cX7_keepsCells 12 = .ok (.iload_n 1, 1) := by decide +kernel
theorem dX7_keepsCells_13 : decode cX7_keepsCells 13 = .ok (.iconst 1, 1) := by decide +kernel
theorem dX7_keepsCells_14 : decode cX7_keepsCells 14 = .ok (.isub, 1) := by decide +kernel
theorem dX7_keepsCells_15 : decode cX7_keepsCells 15 = .ok (.iaload, 1) := by decide +kernel
theorem dX7_keepsCells_16 : decode cX7_keepsCells 16 = .ok (.istore_n 2, 1) := by decide +kernel
theorem dX7_keepsCells_17 : decode cX7_keepsCells 17 = .ok (.iload_n 2, 1) := by decide +kernel
theorem dX7_keepsCells_18 : decode cX7_keepsCells 18 = .ok (.aload_n 0, 1) := by decide +kernel
theorem dX7_keepsCells_19 : decode cX7_keepsCells 19 = .ok (.getfield 27, 3) := by decide +kernel
theorem dX7_keepsCells_22 : decode cX7_keepsCells 22 = .ok (.iload_n 1, 1) := by decide +kernel
theorem dX7_keepsCells_23 : decode cX7_keepsCells 23 = .ok (.iaload, 1) := by decide +kernel
theorem dX7_keepsCells_24 : decode cX7_keepsCells 24 = .ok (.if_icmp .ge 62, 3) := by decide +kernel
theorem dX7_keepsCells_27 : decode cX7_keepsCells 27 = .ok (.aload_n 0, 1) := by decide +kernel
theorem dX7_keepsCells_28 : decode cX7_keepsCells 28 = .ok (.getfield 34, 3) := by decide +kernel
theorem dX7_keepsCells_31 : decode cX7_keepsCells 31 = .ok (.aload_n 0, 1) := by decide +kernel
theorem dX7_keepsCells_32 : decode cX7_keepsCells 32 = .ok (.getfield 15, 3) := by decide +kernel
theorem dX7_keepsCells_35 : decode cX7_keepsCells 35 = .ok (.iload_n 2, 1) := by decide +kernel
theorem dX7_keepsCells_36 : decode cX7_keepsCells 36 = .ok (.iaload, 1) := by decide +kernel
theorem dX7_keepsCells_37 : decode cX7_keepsCells 37 = .ok (.aload_n 0, 1) := by decide +kernel
theorem dX7_keepsCells_38 : decode cX7_keepsCells 38 = .ok (.getfield 9, 3) := by decide +kernel
theorem dX7_keepsCells_41 : decode cX7_keepsCells 41 = .ok (.aload_n 0, 1) := by decide +kernel
theorem dX7_keepsCells_42 : decode cX7_keepsCells 42 = .ok (.getfield 18, 3) := by decide +kernel
theorem dX7_keepsCells_45 : decode cX7_keepsCells 45 = .ok (.iload_n 2, 1) := by decide +kernel
theorem dX7_keepsCells_46 : decode cX7_keepsCells 46 = .ok (.iaload, 1) := by decide +kernel
theorem dX7_keepsCells_47 : decode cX7_keepsCells 47 = .ok (.iaload, 1) := by decide +kernel
theorem dX7_keepsCells_48 : decode cX7_keepsCells 48 = .ok (.aload_n 0, 1) := by decide +kernel
theorem dX7_keepsCells_49 : decode cX7_keepsCells 49 = .ok (.getfield 9, 3) := by decide +kernel
theorem dX7_keepsCells_52 : decode cX7_keepsCells 52 = .ok (.aload_n 0, 1) := by decide +kernel
theorem dX7_keepsCells_53 : decode cX7_keepsCells 53 = .ok (.getfield 21, 3) := by decide +kernel
theorem dX7_keepsCells_56 : decode cX7_keepsCells 56 = .ok (.iload_n 2, 1) := by decide +kernel
theorem dX7_keepsCells_57 : decode cX7_keepsCells 57 = .ok (.iaload, 1) := by decide +kernel
theorem dX7_keepsCells_58 : decode cX7_keepsCells 58 = .ok (.iaload, 1) := by decide +kernel
theorem dX7_keepsCells_59 : decode cX7_keepsCells 59 = .ok (.invokevirtual 82, 3) := by decide +kernel
theorem dX7_keepsCells_62 : decode cX7_keepsCells 62 = .ok (.istore_n 3, 1) := by decide +kernel
theorem dX7_keepsCells_63 : decode cX7_keepsCells 63 = .ok (.iload_n 3, 1) := by decide +kernel
theorem dX7_keepsCells_64 : decode cX7_keepsCells 64 = .ok (.aload_n 0, 1) := by decide +kernel
theorem dX7_keepsCells_65 : decode cX7_keepsCells 65 = .ok (.getfield 9, 3) := by decide +kernel
theorem dX7_keepsCells_68 : decode cX7_keepsCells 68 = .ok (.aload_n 0, 1) := by decide +kernel
theorem dX7_keepsCells_69 : decode cX7_keepsCells 69 = .ok (.getfield 24, 3) := by decide +kernel
theorem dX7_keepsCells_72 : decode cX7_keepsCells 72 = .ok (.iload_n 2, 1) := by decide +kernel
theorem dX7_keepsCells_73 : decode cX7_keepsCells 73 = .ok (.iaload, 1) := by decide +kernel
theorem dX7_keepsCells_74 : decode cX7_keepsCells 74 = .ok (.iaload, 1) := by decide +kernel
theorem dX7_keepsCells_75 : decode cX7_keepsCells 75 = .ok (.if_icmp .eq 5, 3) := by decide +kernel
theorem dX7_keepsCells_78 : decode cX7_keepsCells 78 = .ok (.iconst 0, 1) := by decide +kernel
theorem dX7_keepsCells_79 : decode cX7_keepsCells 79 = .ok (.ireturn, 1) := by decide +kernel
theorem dX7_keepsCells_80 : decode cX7_keepsCells 80 = .ok (.iinc 2 1, 3) := by decide +kernel
theorem dX7_keepsCells_83 : decode cX7_keepsCells 83 = .ok (.goto (-66), 3) := by decide +kernel
theorem dX7_keepsCells_86 : decode cX7_keepsCells 86 = .ok (.iconst 1, 1) := by decide +kernel
theorem dX7_keepsCells_87 : decode cX7_keepsCells 87 = .ok (.ireturn, 1) := by decide +kernel
def LX7_keepsCells_17 (F : Nat) (u0 : Nat) (u1 : Int) (k86 : HF → RO) (k78 : HF → RO) : Nat → Int → HF → RO
  | 0, _, _ => none
  | n + 1, v2, h =>
    zrd h (u0 + 6) u1 fun x1 =>
    if v2 < x1 then (
      zgd h u0 3 fun x2 =>
      zrd h (u0 + 2) v2 fun x3 =>
      zrd h (u0 + 3) v2 fun x4 =>
      zrd h (u0 + 1) x4 fun x5 =>
      zrd h (u0 + 4) v2 fun x6 =>
      zrd h (u0 + 1) x6 fun x7 =>
      zbd (fX0_value F x2 x3 x5 x7 h) fun r8 h =>
      zrd h (u0 + 5) v2 fun x9 =>
      zrd h (u0 + 1) x9 fun x10 =>
      if r8 = x10 then (
        zlet (wr (v2 + 1)) fun x11 =>
        LX7_keepsCells_17 F u0 u1 k86 k78 n x11 h
      ) else (
        k78  h
      )
    ) else (
      k86  h
    )
set_option maxHeartbeats 4000000 in
set_option maxRecDepth 100000 in
theorem wX7_keepsCells_17 {p : Program} {l : Launch} {e : Env} {s : State} {m : MethodId} {args : Array Value} {below : List Frame} {meth : Method} {c : Code} {Q : State → Prop} {g : zG} {B : Nat} {o : Int × HF} (F : Nat) (cx : Cx p s m args meth c cX7_keepsCells 4 RX7 (some .boolean) g B) (u0 : Nat) (ru0 : kt u0 = 10) (u1 : Int) (ru1 : rng u1) (k86 : HF → RO) (hk86 : ∀  (h : HF) (H : Heap) (locs : List Loc) (ls : Array Slot), Hp g B s h H locs → lv_has ls 4 [] → k86  h = some o → W p l e (rmn 2) s m args below meth c H locs 0 0 Q (F0 m 86 ls [])) (k78 : HF → RO) (hk78 : ∀  (h : HF) (H : Heap) (locs : List Loc) (ls : Array Slot), Hp g B s h H locs → lv_has ls 4 [] → k78  h = some o → W p l e (rmn 2) s m args below meth c H locs 0 0 Q (F0 m 78 ls [])) : ∀ (n : Nat) (v2 : Int) (h : HF) (H : Heap) (locs : List Loc) (ls : Array Slot), rng v2 → Hp g B s h H locs → lv_has ls 4 [(0, .ref (B + u0)), (1, .int (ii u1)), (2, .int (ii v2))] → LX7_keepsCells_17 F u0 u1 k86 k78 n v2 h = some o → W p l e (rmn 2) s m args below meth c H locs 0 0 Q (F0 m 17 ls []) := by
  intro n
  induction n with
  | zero =>
    intro v2 h H locs ls rv2 hp hl hf
    cases hf
  | succ n ih =>
    intro v2 h H locs ls rv2 hp hl hf
    rw [LX7_keepsCells_17] at hf
    refine lv_iload_n cx.1 cx.2.1 dX7_keepsCells_17 rfl (lv_at hl 2 rfl) ?_
    refine lv_aload_n cx.1 cx.2.1 dX7_keepsCells_18 rfl (lv_at hl 0 rfl) ?_
    refine z_gets cx hp (T := TX7) 7 13 (u0 + 6) rfl zin_7 (by decide) (by decide) ru0 rfl fl_X7_27 dX7_keepsCells_19 ?_
    refine lv_iload_n cx.1 cx.2.1 dX7_keepsCells_22 rfl (lv_at hl 1 rfl) ?_
    refine z_iald cx hp (zs_7_13 u0 (kt_lt ru0 (by decide)) ru0) ru1 dX7_keepsCells_23 hf (fun x1 rx1 hf => ?_)
    refine z_icmp_ge cx rv2 rx1 (tgt := 86) dX7_keepsCells_24 (by decide) hf (fun _ hf => ?_) (fun _ hf => ?_)
    · refine lv_aload_n cx.1 cx.2.1 dX7_keepsCells_27 rfl (lv_at hl 0 rfl) ?_
      refine z_getd cx hp (T := TX7) 7 3 3 rfl zin_7 (by decide) (by decide) ru0 rfl fl_X7_34 dX7_keepsCells_28 hf (fun x2 rx2 hf => ?_)
      refine lv_aload_n cx.1 cx.2.1 dX7_keepsCells_31 rfl (lv_at hl 0 rfl) ?_
      refine z_gets cx hp (T := TX7) 7 9 (u0 + 2) rfl zin_7 (by decide) (by decide) ru0 rfl fl_X7_15 dX7_keepsCells_32 ?_
      refine lv_iload_n cx.1 cx.2.1 dX7_keepsCells_35 rfl (lv_at hl 2 rfl) ?_
      refine z_iald cx hp (zs_7_9 u0 (kt_lt ru0 (by decide)) ru0) rv2 dX7_keepsCells_36 hf (fun x3 rx3 hf => ?_)
      refine lv_aload_n cx.1 cx.2.1 dX7_keepsCells_37 rfl (lv_at hl 0 rfl) ?_
      refine z_gets cx hp (T := TX7) 7 8 (u0 + 1) rfl zin_7 (by decide) (by decide) ru0 rfl fl_X7_9 dX7_keepsCells_38 ?_
      refine lv_aload_n cx.1 cx.2.1 dX7_keepsCells_41 rfl (lv_at hl 0 rfl) ?_
      refine z_gets cx hp (T := TX7) 7 10 (u0 + 3) rfl zin_7 (by decide) (by decide) ru0 rfl fl_X7_18 dX7_keepsCells_42 ?_
      refine lv_iload_n cx.1 cx.2.1 dX7_keepsCells_45 rfl (lv_at hl 2 rfl) ?_
      refine z_iald cx hp (zs_7_10 u0 (kt_lt ru0 (by decide)) ru0) rv2 dX7_keepsCells_46 hf (fun x4 rx4 hf => ?_)
      refine z_iald cx hp (zs_7_8 u0 (kt_lt ru0 (by decide)) ru0) rx4 dX7_keepsCells_47 hf (fun x5 rx5 hf => ?_)
      refine lv_aload_n cx.1 cx.2.1 dX7_keepsCells_48 rfl (lv_at hl 0 rfl) ?_
      refine z_gets cx hp (T := TX7) 7 8 (u0 + 1) rfl zin_7 (by decide) (by decide) ru0 rfl fl_X7_9 dX7_keepsCells_49 ?_
      refine lv_aload_n cx.1 cx.2.1 dX7_keepsCells_52 rfl (lv_at hl 0 rfl) ?_
      refine z_gets cx hp (T := TX7) 7 11 (u0 + 4) rfl zin_7 (by decide) (by decide) ru0 rfl fl_X7_21 dX7_keepsCells_53 ?_
      refine lv_iload_n cx.1 cx.2.1 dX7_keepsCells_56 rfl (lv_at hl 2 rfl) ?_
      refine z_iald cx hp (zs_7_11 u0 (kt_lt ru0 (by decide)) ru0) rv2 dX7_keepsCells_57 hf (fun x6 rx6 hf => ?_)
      refine z_iald cx hp (zs_7_8 u0 (kt_lt ru0 (by decide)) ru0) rx6 dX7_keepsCells_58 hf (fun x7 rx7 hf => ?_)
      refine z_ci cx hp (fun o' hx => zrunV (n := 2) (As := [.int (ii x3), .int (ii x5), .int (ii x7)]) (rest := []) cx hp (mX0_value F l g B h x2 x3 x5 x7 rx2 rx3 rx5 rx7 o' hx) 0 rx2 (by decide) rfl vw_X0_value ml_X7_82 (by decide) rfl hl.1 rfl (Nat.le_of_ble_eq_true rfl) dX7_keepsCells_59) hf (fun r8 h H locs rr8 hp hf => ?_)
      refine lv_istore_n (lv' := [(3, .int (ii r8)), (0, .ref (B + u0)), (1, .int (ii u1)), (2, .int (ii v2))]) cx.1 cx.2.1 dX7_keepsCells_62 rfl hl (by decide) rfl (fun ls hl => ?_)
      refine lv_iload_n cx.1 cx.2.1 dX7_keepsCells_63 rfl (lv_at hl 0 rfl) ?_
      refine lv_aload_n cx.1 cx.2.1 dX7_keepsCells_64 rfl (lv_at hl 1 rfl) ?_
      refine z_gets cx hp (T := TX7) 7 8 (u0 + 1) rfl zin_7 (by decide) (by decide) ru0 rfl fl_X7_9 dX7_keepsCells_65 ?_
      refine lv_aload_n cx.1 cx.2.1 dX7_keepsCells_68 rfl (lv_at hl 1 rfl) ?_
      refine z_gets cx hp (T := TX7) 7 12 (u0 + 5) rfl zin_7 (by decide) (by decide) ru0 rfl fl_X7_24 dX7_keepsCells_69 ?_
      refine lv_iload_n cx.1 cx.2.1 dX7_keepsCells_72 rfl (lv_at hl 3 rfl) ?_
      refine z_iald cx hp (zs_7_12 u0 (kt_lt ru0 (by decide)) ru0) rv2 dX7_keepsCells_73 hf (fun x9 rx9 hf => ?_)
      refine z_iald cx hp (zs_7_8 u0 (kt_lt ru0 (by decide)) ru0) rx9 dX7_keepsCells_74 hf (fun x10 rx10 hf => ?_)
      refine z_icmp_eq cx rr8 rx10 (tgt := 80) dX7_keepsCells_75 (by decide) hf (fun _ hf => ?_) (fun _ hf => ?_)
      · refine z_iinc cx (fun x11 => [(2, .int (ii x11)), (3, .int (ii r8)), (0, .ref (B + u0)), (1, .int (ii u1))]) dX7_keepsCells_80 hl (k := 3) rfl (by decide) (fun _ => rfl) hf (fun x11 rx11 hf ls hl => ?_)
        refine lv_goto (tgt := 17) cx.1 cx.2.1 dX7_keepsCells_83 (by decide) ?_
        exact ih x11 h _ _ ls rx11 hp (lv_sub hl [2, 3, 0] rfl) hf
      · exact hk78  h _ _ ls  hp (lv_sub hl [] rfl) hf
    · exact hk86  h _ _ ls  hp (lv_sub hl [] rfl) hf
def fX7_keepsCells (F : Nat) (a0 : Nat) (a1 : Int) (h : HF) : RO :=
  zjn (fun (y16_0 : Int) (h : HF) => (
    zjn (fun  (h : HF) => (
      zrz 1 h
    )) fun j86 =>
    zjn (fun  (h : HF) => (
      zrz 0 h
    )) fun j78 =>
    LX7_keepsCells_17 F a0 a1 j86 j78 F y16_0 h
  )) fun j16 =>
  if a1 = 0 then (
    j16 0 h
  ) else (
    zrd h (a0 + 6) (wr (a1 - 1)) fun x12 =>
    j16 x12 h
  )
set_option maxHeartbeats 4000000 in
set_option maxRecDepth 100000 in
theorem mX7_keepsCells (F : Nat) (l : Launch) (g : zG) (B : Nat) (h : HF) (a0 : Nat) (a1 : Int) (ra0 : kt a0 = 10) (ra1 : rng a1) : CTi l g B yX7_keepsCells cX7_keepsCells 4 (some .boolean) 2 [.ref (B + a0), .int (ii a1)] h (fX7_keepsCells F a0 a1 h) := by
  refine z_enterI (by decide) rfl (Nat.le_of_ble_eq_true rfl) ?_
  intro p e s m args below meth c ls o Q cx hp hl hf hQ
  have hl : lv_has ls 4 [(0, .ref (B + a0)), (1, .int (ii a1))] := hl
  unfold fX7_keepsCells at hf
  refine lv_iload_n cx.1 cx.2.1 dX7_keepsCells_0 rfl (lv_at hl 1 rfl) ?_
  refine z_jn hf (fun j => ∀ (y16_0 : Int) (h : HF) (H : Heap) (locs : List Loc) (ls : Array Slot), rng y16_0 → Hp g B s h H locs → lv_has ls 4 [(0, .ref (B + a0)), (1, .int (ii a1))] → j y16_0 h = some o → W p l e (rmn 2) s m args below meth c H locs 0 0 Q (F0 m 16 ls [.int (ii y16_0)])) ?_ (fun j16 hj16 hf => ?_)
  · intro y16_0 h H locs ls ry16_0 hp hl hf
    refine lv_istore_n (lv' := [(2, .int (ii y16_0)), (0, .ref (B + a0)), (1, .int (ii a1))]) cx.1 cx.2.1 dX7_keepsCells_16 rfl hl (by decide) rfl (fun ls hl => ?_)
    refine z_jn hf (fun j => ∀  (h : HF) (H : Heap) (locs : List Loc) (ls : Array Slot), Hp g B s h H locs → lv_has ls 4 [] → j  h = some o → W p l e (rmn 2) s m args below meth c H locs 0 0 Q (F0 m 86 ls [])) ?_ (fun j86 hj86 hf => ?_)
    · intro  h H locs ls  hp hl hf
      refine z_iconst cx dX7_keepsCells_86 ?_
      rw [hQ]; exact z_zret cx hp dX7_keepsCells_87 hf
    refine z_jn hf (fun j => ∀  (h : HF) (H : Heap) (locs : List Loc) (ls : Array Slot), Hp g B s h H locs → lv_has ls 4 [] → j  h = some o → W p l e (rmn 2) s m args below meth c H locs 0 0 Q (F0 m 78 ls [])) ?_ (fun j78 hj78 hf => ?_)
    · intro  h H locs ls  hp hl hf
      refine z_iconst cx dX7_keepsCells_78 ?_
      rw [hQ]; exact z_zret cx hp dX7_keepsCells_79 hf
    exact wX7_keepsCells_17 F cx a0 ra0 a1 ra1 j86 hj86 j78 hj78 F y16_0 h _ _ ls ry16_0 hp (lv_sub hl [1, 2, 0] rfl) hf
  refine z_if_ne cx ra1 (tgt := 8) dX7_keepsCells_1 (by decide) hf (fun _ hf => ?_) (fun _ hf => ?_)
  · refine z_iconst cx dX7_keepsCells_4 ?_
    refine lv_goto (tgt := 16) cx.1 cx.2.1 dX7_keepsCells_5 (by decide) ?_
    exact hj16 0 h _ _ ls (by decide) hp (lv_sub hl [0, 1] rfl) hf
  · refine lv_aload_n cx.1 cx.2.1 dX7_keepsCells_8 rfl (lv_at hl 0 rfl) ?_
    refine z_gets cx hp (T := TX7) 7 13 (a0 + 6) rfl zin_7 (by decide) (by decide) ra0 rfl fl_X7_27 dX7_keepsCells_9 ?_
    refine lv_iload_n cx.1 cx.2.1 dX7_keepsCells_12 rfl (lv_at hl 1 rfl) ?_
    refine z_iconst cx dX7_keepsCells_13 ?_
    refine z_isub cx dX7_keepsCells_14 ?_
    refine z_iald cx hp (zs_7_13 a0 (kt_lt ra0 (by decide)) ra0) (rng_wr _) dX7_keepsCells_15 hf (fun x12 rx12 hf => ?_)
    exact hj16 x12 h _ _ ls rx12 hp (lv_sub hl [0, 1] rfl) hf
theorem dX9_placeOf_0 : decode cX9_placeOf 0 = .ok (.iconst 0, 1) := by decide +kernel
theorem dX9_placeOf_1 : decode cX9_placeOf 1 = .ok (.istore_n 2, 1) := by decide +kernel
theorem dX9_placeOf_2 : decode cX9_placeOf 2 = .ok (.aload_n 0, 1) := by decide +kernel
theorem dX9_placeOf_3 : decode cX9_placeOf 3 = .ok (.getfield 25, 3) := by decide +kernel
theorem dX9_placeOf_6 : decode cX9_placeOf 6 = .ok (.istore_n 3, 1) := by decide +kernel
theorem dX9_placeOf_7 : decode cX9_placeOf 7 = .ok (.iconst 0, 1) := by decide +kernel
theorem dX9_placeOf_8 : decode cX9_placeOf 8 = .ok (.istore 4, 2) := by decide +kernel
theorem dX9_placeOf_10 : decode cX9_placeOf 10 = .ok (.iload 4, 2) := by decide +kernel
theorem dX9_placeOf_12 : decode cX9_placeOf 12 = .ok (.sipush 300, 3) := by decide +kernel
theorem dX9_placeOf_15 : decode cX9_placeOf 15 = .ok (.if_icmp .ge 43, 3) := by decide +kernel
theorem dX9_placeOf_18 : decode cX9_placeOf 18 = .ok (.iload_n 2, 1) := by decide +kernel
theorem dX9_placeOf_19 : decode cX9_placeOf 19 = .ok (.iload_n 3, 1) := by decide +kernel
theorem dX9_placeOf_20 : decode cX9_placeOf 20 = .ok (.if_icmp .ge 38, 3) := by decide +kernel
theorem dX9_placeOf_23 : decode cX9_placeOf 23 = .ok (.iload_n 2, 1) := by decide +kernel
theorem dX9_placeOf_24 : decode cX9_placeOf 24 = .ok (.iload_n 3, 1) := by decide +kernel
theorem dX9_placeOf_25 : decode cX9_placeOf 25 = .ok (.iadd, 1) := by decide +kernel
theorem dX9_placeOf_26 : decode cX9_placeOf 26 = .ok (.iconst 2, 1) := by decide +kernel
theorem dX9_placeOf_27 : decode cX9_placeOf 27 = .ok (.idiv, 1) := by decide +kernel
theorem dX9_placeOf_28 : decode cX9_placeOf 28 = .ok (.istore 5, 2) := by decide +kernel
theorem dX9_placeOf_30 : decode cX9_placeOf 30 = .ok (.aload_n 0, 1) := by decide +kernel
theorem dX9_placeOf_31 : decode cX9_placeOf 31 = .ok (.getfield 9, 3) := by decide +kernel
theorem dX9_placeOf_34 : decode cX9_placeOf 34 = .ok (.iload 5, 2) := by decide +kernel
theorem dX9_placeOf_36 : decode cX9_placeOf 36 = .ok (.iaload, 1) := by decide +kernel
theorem dX9_placeOf_37 : decode cX9_placeOf 37 = .ok (.iload_n 1, 1) := by decide +kernel
theorem dX9_placeOf_38 : decode cX9_placeOf 38 = .ok (.if_icmp .ge 11, 3) := by decide +kernel
theorem dX9_placeOf_41 : decode cX9_placeOf 41 = .ok (.iload 5, 2) := by decide +kernel
theorem dX9_placeOf_43 : decode cX9_placeOf 43 = .ok (.iconst 1, 1) := by decide +kernel
theorem dX9_placeOf_44 : decode cX9_placeOf 44 = .ok (.iadd, 1) := by decide +kernel
theorem dX9_placeOf_45 : decode cX9_placeOf 45 = .ok (.istore_n 2, 1) := by decide +kernel
theorem dX9_placeOf_46 : decode cX9_placeOf 46 = .ok (.goto 6, 3) := by decide +kernel
theorem dX9_placeOf_49 : decode cX9_placeOf 49 = .ok (.iload 5, 2) := by decide +kernel
theorem dX9_placeOf_51 : decode cX9_placeOf 51 = .ok (.istore_n 3, 1) := by decide +kernel
theorem dX9_placeOf_52 : decode cX9_placeOf 52 = .ok (.iinc 4 1, 3) := by decide +kernel
theorem dX9_placeOf_55 : decode cX9_placeOf 55 = .ok (.goto (-45), 3) := by decide +kernel
theorem dX9_placeOf_58 : decode cX9_placeOf 58 = .ok (.iload_n 2, 1) := by decide +kernel
theorem dX9_placeOf_59 : decode cX9_placeOf 59 = .ok (.ireturn, 1) := by decide +kernel
def LX9_placeOf_10 (F : Nat) (u0 : Nat) (u1 : Int) (k58 : Int → HF → RO) : Nat → Int → Int → Int → HF → RO
  | 0, _, _, _, _ => none
  | n + 1, v2, v3, v4, h =>
    if v4 < 300 then (
      if v2 < v3 then (
        zdv 2 <|
        zlet (wdiv (wr (v2 + v3)) 2) fun x2 =>
        zrd h (u0 + 1) x2 fun x3 =>
        zjn (fun (x52_2 : Int) (x52_3 : Int) (x52_4 : Int) (h : HF) => (
          zlet (wr (x52_4 + 1)) fun x4 =>
          LX9_placeOf_10 F u0 u1 k58 n x52_2 x52_3 x4 h
        )) fun j52 =>
        if x3 < u1 then (
          zlet (wr (x2 + 1)) fun x5 =>
          j52 x5 v3 v4 h
        ) else (
          j52 v2 x2 v4 h
        )
      ) else (
        k58 v2 h
      )
    ) else (
      k58 v2 h
    )
set_option maxHeartbeats 4000000 in
set_option maxRecDepth 100000 in
theorem wX9_placeOf_10 {p : Program} {l : Launch} {e : Env} {s : State} {m : MethodId} {args : Array Value} {below : List Frame} {meth : Method} {c : Code} {Q : State → Prop} {g : zG} {B : Nat} {o : Int × HF} (F : Nat) (cx : Cx p s m args meth c cX9_placeOf 6 RX9 (some .int) g B) (u0 : Nat) (ru0 : kt u0 = 12) (u1 : Int) (ru1 : rng u1) (k58 : Int → HF → RO) (hk58 : ∀ (x2 : Int) (h : HF) (H : Heap) (locs : List Loc) (ls : Array Slot), rng x2 → Hp g B s h H locs → lv_has ls 6 [(2, .int (ii x2))] → k58 x2 h = some o → W p l e (rmn 0) s m args below meth c H locs 0 0 Q (F0 m 58 ls [])) : ∀ (n : Nat) (v2 : Int) (v3 : Int) (v4 : Int) (h : HF) (H : Heap) (locs : List Loc) (ls : Array Slot), rng v2 → rng v3 → rng v4 → Hp g B s h H locs → lv_has ls 6 [(0, .ref (B + u0)), (1, .int (ii u1)), (2, .int (ii v2)), (3, .int (ii v3)), (4, .int (ii v4))] → LX9_placeOf_10 F u0 u1 k58 n v2 v3 v4 h = some o → W p l e (rmn 0) s m args below meth c H locs 0 0 Q (F0 m 10 ls []) := by
  intro n
  induction n with
  | zero =>
    intro v2 v3 v4 h H locs ls rv2 rv3 rv4 hp hl hf
    cases hf
  | succ n ih =>
    intro v2 v3 v4 h H locs ls rv2 rv3 rv4 hp hl hf
    rw [LX9_placeOf_10] at hf
    refine lv_iload cx.1 cx.2.1 dX9_placeOf_10 (lv_at hl 4 rfl) ?_
    refine z_sipush cx (by decide) dX9_placeOf_12 ?_
    refine z_icmp_ge cx rv4 (by decide) (tgt := 58) dX9_placeOf_15 (by decide) hf (fun _ hf => ?_) (fun _ hf => ?_)
    · refine lv_iload_n cx.1 cx.2.1 dX9_placeOf_18 rfl (lv_at hl 2 rfl) ?_
      refine lv_iload_n cx.1 cx.2.1 dX9_placeOf_19 rfl (lv_at hl 3 rfl) ?_
      refine z_icmp_ge cx rv2 rv3 (tgt := 58) dX9_placeOf_20 (by decide) hf (fun _ hf => ?_) (fun _ hf => ?_)
      · refine lv_iload_n cx.1 cx.2.1 dX9_placeOf_23 rfl (lv_at hl 2 rfl) ?_
        refine lv_iload_n cx.1 cx.2.1 dX9_placeOf_24 rfl (lv_at hl 3 rfl) ?_
        refine z_iadd cx dX9_placeOf_25 ?_
        refine z_iconst cx dX9_placeOf_26 ?_
        refine z_idiv cx (rng_wr _) (by decide) dX9_placeOf_27 hf (fun hf => ?_)
        refine z_let (rng_div _ _) hf (fun x2 rx2 hf => ?_)
        refine lv_istore (lv' := [(5, .int (ii x2)), (0, .ref (B + u0)), (1, .int (ii u1)), (2, .int (ii v2)), (3, .int (ii v3)), (4, .int (ii v4))]) cx.1 cx.2.1 dX9_placeOf_28 hl (by decide) rfl (fun ls hl => ?_)
        refine lv_aload_n cx.1 cx.2.1 dX9_placeOf_30 rfl (lv_at hl 1 rfl) ?_
        refine z_gets cx hp (T := TX9) 9 0 (u0 + 1) rfl zin_9 (by decide) (by decide) ru0 rfl fl_X9_9 dX9_placeOf_31 ?_
        refine lv_iload cx.1 cx.2.1 dX9_placeOf_34 (lv_at hl 0 rfl) ?_
        refine z_iald cx hp (zs_9_0 u0 (kt_lt ru0 (by decide)) ru0) rx2 dX9_placeOf_36 hf (fun x3 rx3 hf => ?_)
        refine lv_iload_n cx.1 cx.2.1 dX9_placeOf_37 rfl (lv_at hl 2 rfl) ?_
        refine z_jn hf (fun j => ∀ (x52_2 : Int) (x52_3 : Int) (x52_4 : Int) (h : HF) (H : Heap) (locs : List Loc) (ls : Array Slot), rng x52_2 → rng x52_3 → rng x52_4 → Hp g B s h H locs → lv_has ls 6 [(0, .ref (B + u0)), (1, .int (ii u1)), (2, .int (ii x52_2)), (3, .int (ii x52_3)), (4, .int (ii x52_4))] → j x52_2 x52_3 x52_4 h = some o → W p l e (rmn 0) s m args below meth c H locs 0 0 Q (F0 m 52 ls [])) ?_ (fun j52 hj52 hf => ?_)
        · intro x52_2 x52_3 x52_4 h H locs ls rx52_2 rx52_3 rx52_4 hp hl hf
          refine z_iinc cx (fun x4 => [(4, .int (ii x4)), (0, .ref (B + u0)), (1, .int (ii u1)), (2, .int (ii x52_2)), (3, .int (ii x52_3))]) dX9_placeOf_52 hl (k := 4) rfl (by decide) (fun _ => rfl) hf (fun x4 rx4 hf ls hl => ?_)
          refine lv_goto (tgt := 10) cx.1 cx.2.1 dX9_placeOf_55 (by decide) ?_
          exact ih x52_2 x52_3 x4 h _ _ ls rx52_2 rx52_3 rx4 hp (lv_sub hl [1, 2, 3, 4, 0] rfl) hf
        refine z_icmp_ge cx rx3 ru1 (tgt := 49) dX9_placeOf_38 (by decide) hf (fun _ hf => ?_) (fun _ hf => ?_)
        · refine lv_iload cx.1 cx.2.1 dX9_placeOf_41 (lv_at hl 0 rfl) ?_
          refine z_iconst cx dX9_placeOf_43 ?_
          refine z_iadd cx dX9_placeOf_44 ?_
          refine z_let (rng_wr _) hf (fun x5 rx5 hf => ?_)
          refine lv_istore_n (lv' := [(2, .int (ii x5)), (5, .int (ii x2)), (0, .ref (B + u0)), (1, .int (ii u1)), (3, .int (ii v3)), (4, .int (ii v4))]) cx.1 cx.2.1 dX9_placeOf_45 rfl hl (by decide) rfl (fun ls hl => ?_)
          refine lv_goto (tgt := 52) cx.1 cx.2.1 dX9_placeOf_46 (by decide) ?_
          exact hj52 x5 v3 v4 h _ _ ls rx5 rv3 rv4 hp (lv_sub hl [2, 3, 0, 4, 5] rfl) hf
        · refine lv_iload cx.1 cx.2.1 dX9_placeOf_49 (lv_at hl 0 rfl) ?_
          refine lv_istore_n (lv' := [(3, .int (ii x2)), (5, .int (ii x2)), (0, .ref (B + u0)), (1, .int (ii u1)), (2, .int (ii v2)), (4, .int (ii v4))]) cx.1 cx.2.1 dX9_placeOf_51 rfl hl (by decide) rfl (fun ls hl => ?_)
          exact hj52 v2 x2 v4 h _ _ ls rv2 rx2 rv4 hp (lv_sub hl [2, 3, 4, 0, 5] rfl) hf
      · exact hk58 v2 h _ _ ls rv2 hp (lv_sub hl [2] rfl) hf
    · exact hk58 v2 h _ _ ls rv2 hp (lv_sub hl [2] rfl) hf
def fX9_placeOf (F : Nat) (a0 : Nat) (a1 : Int) (h : HF) : RO :=
  zgf h a0 1 fun x1 =>
  zjn (fun (x58_2 : Int) (h : HF) => (
    some (x58_2, h)
  )) fun j58 =>
  LX9_placeOf_10 F a0 a1 j58 F 0 x1 0 h
set_option maxHeartbeats 4000000 in
set_option maxRecDepth 100000 in
theorem mX9_placeOf (F : Nat) (l : Launch) (g : zG) (B : Nat) (h : HF) (a0 : Nat) (a1 : Int) (ra0 : kt a0 = 12) (ra1 : rng a1) : CTi l g B yX9_placeOf cX9_placeOf 6 (some .int) 0 [.ref (B + a0), .int (ii a1)] h (fX9_placeOf F a0 a1 h) := by
  refine z_enterI (by decide) rfl (Nat.le_of_ble_eq_true rfl) ?_
  intro p e s m args below meth c ls o Q cx hp hl hf hQ
  have hl : lv_has ls 6 [(0, .ref (B + a0)), (1, .int (ii a1))] := hl
  unfold fX9_placeOf at hf
  refine z_iconst cx dX9_placeOf_0 ?_
  refine lv_istore_n (lv' := [(2, .int (ii 0)), (0, .ref (B + a0)), (1, .int (ii a1))]) cx.1 cx.2.1 dX9_placeOf_1 rfl hl (by decide) rfl (fun ls hl => ?_)
  refine lv_aload_n cx.1 cx.2.1 dX9_placeOf_2 rfl (lv_at hl 1 rfl) ?_
  refine z_geti cx hp (T := TX9) 9 1 rfl zin_9 (by decide) (by decide) ra0 rfl fl_X9_25 dX9_placeOf_3 hf (fun x1 rx1 hf => ?_)
  refine lv_istore_n (lv' := [(3, .int (ii x1)), (2, .int (ii 0)), (0, .ref (B + a0)), (1, .int (ii a1))]) cx.1 cx.2.1 dX9_placeOf_6 rfl hl (by decide) rfl (fun ls hl => ?_)
  refine z_iconst cx dX9_placeOf_7 ?_
  refine lv_istore (lv' := [(4, .int (ii 0)), (3, .int (ii x1)), (2, .int (ii 0)), (0, .ref (B + a0)), (1, .int (ii a1))]) cx.1 cx.2.1 dX9_placeOf_8 hl (by decide) rfl (fun ls hl => ?_)
  refine z_jn hf (fun j => ∀ (x58_2 : Int) (h : HF) (H : Heap) (locs : List Loc) (ls : Array Slot), rng x58_2 → Hp g B s h H locs → lv_has ls 6 [(2, .int (ii x58_2))] → j x58_2 h = some o → W p l e (rmn 0) s m args below meth c H locs 0 0 Q (F0 m 58 ls [])) ?_ (fun j58 hj58 hf => ?_)
  · intro x58_2 h H locs ls rx58_2 hp hl hf
    refine lv_iload_n cx.1 cx.2.1 dX9_placeOf_58 rfl (lv_at hl 0 rfl) ?_
    rw [hQ]; exact z_iret cx hp rx58_2 dX9_placeOf_59 hf
  exact wX9_placeOf_10 F cx a0 ra0 a1 ra1 j58 hj58 F 0 x1 0 h _ _ ls (by decide) rx1 (by decide) hp (lv_sub hl [3, 4, 2, 1, 0] rfl) hf
theorem dX10_begin_0 : decode cX10_begin 0 = .ok (.aload_n 0, 1) := by decide +kernel
theorem dX10_begin_1 : decode cX10_begin 1 = .ok (.aload_n 1, 1) := by decide +kernel
theorem dX10_begin_2 : decode cX10_begin 2 = .ok (.putfield 24, 3) := by decide +kernel
theorem dX10_begin_5 : decode cX10_begin 5 = .ok (.aload_n 0, 1) := by decide +kernel
theorem dX10_begin_6 : decode cX10_begin 6 = .ok (.iconst 0, 1) := by decide +kernel
theorem dX10_begin_7 : decode cX10_begin 7 = .ok (.putfield 28, 3) := by decide +kernel
theorem dX10_begin_10 : decode cX10_begin 10 = .ok (.aload_n 0, 1) := by decide +kernel
theorem dX10_begin_11 : decode cX10_begin 11 = .ok (.iconst 0, 1) := by decide +kernel
theorem dX10_begin_12 : decode cX10_begin 12 = .ok (.putfield 32, 3) := by decide +kernel
theorem dX10_begin_15 : decode cX10_begin 15 = .ok (.aload_n 0, 1) := by decide +kernel
theorem dX10_begin_16 : decode cX10_begin 16 = .ok (.iconst 0, 1) := by decide +kernel
theorem dX10_begin_17 : decode cX10_begin 17 = .ok (.putfield 35, 3) := by decide +kernel
theorem dX10_begin_20 : decode cX10_begin 20 = .ok (.return_, 1) := by decide +kernel
def fX10_begin (F : Nat) (a0 : Nat) (a1 : Nat) (h : HF) : RO :=
  zpf h a0 2 ((a1 : Nat) : Int) fun h =>
  zpf h a0 3 0 fun h =>
  zpf h a0 0 0 fun h =>
  zpf h a0 1 0 fun h =>
  some (0, h)
set_option maxHeartbeats 4000000 in
set_option maxRecDepth 100000 in
theorem mX10_begin (F : Nat) (l : Launch) (g : zG) (B : Nat) (h : HF) (a0 : Nat) (a1 : Nat) (ra0 : kt a0 = 13) (ra1 : kt a1 = 4) : CTv l g B yX10_begin cX10_begin 2 0 [.ref (B + a0), .ref (B + a1)] h (fX10_begin F a0 a1 h) := by
  refine z_enterV (by decide) rfl (Nat.le_of_ble_eq_true rfl) ?_
  intro p e s m args below meth c ls o Q cx hp hl hf hQ
  have hl : lv_has ls 2 [(0, .ref (B + a0)), (1, .ref (B + a1))] := hl
  unfold fX10_begin at hf
  refine lv_aload_n cx.1 cx.2.1 dX10_begin_0 rfl (lv_at hl 0 rfl) ?_
  refine lv_aload_n cx.1 cx.2.1 dX10_begin_1 rfl (lv_at hl 1 rfl) ?_
  refine z_putd cx hp (T := TX10) tyX10 tyX10_ok nmX10 10 2 4 ra1 rfl zin_10 (by decide) (by decide) ra0 rfl rfl ⟨_, rfl⟩ fl_X10_24 dX10_begin_2 hf (fun h H locs hp hf => ?_)
  refine lv_aload_n cx.1 cx.2.1 dX10_begin_5 rfl (lv_at hl 0 rfl) ?_
  refine z_iconst cx dX10_begin_6 ?_
  refine z_puti cx hp (T := TX10) tyX10 tyX10_ok nmX10 10 3 (by decide) rfl zin_10 (by decide) (by decide) ra0 rfl rfl rfl fl_X10_28 dX10_begin_7 hf (fun h H locs hp hf => ?_)
  refine lv_aload_n cx.1 cx.2.1 dX10_begin_10 rfl (lv_at hl 0 rfl) ?_
  refine z_iconst cx dX10_begin_11 ?_
  refine z_puti cx hp (T := TX10) tyX10 tyX10_ok nmX10 10 0 (by decide) rfl zin_10 (by decide) (by decide) ra0 rfl rfl rfl fl_X10_32 dX10_begin_12 hf (fun h H locs hp hf => ?_)
  refine lv_aload_n cx.1 cx.2.1 dX10_begin_15 rfl (lv_at hl 0 rfl) ?_
  refine z_iconst cx dX10_begin_16 ?_
  refine z_puti cx hp (T := TX10) tyX10 tyX10_ok nmX10 10 1 (by decide) rfl zin_10 (by decide) (by decide) ra0 rfl rfl rfl fl_X10_35 dX10_begin_17 hf (fun h H locs hp hf => ?_)
  rw [hQ]; exact z_vret cx hp dX10_begin_20 hf
theorem dX10_failAt_0 : decode cX10_failAt 0 = .ok (.aload_n 0, 1) := by decide +kernel
theorem dX10_failAt_1 : decode cX10_failAt 1 = .ok (.iload_n 2, 1) := by decide +kernel
theorem dX10_failAt_2 : decode cX10_failAt 2 = .ok (.putfield 32, 3) := by decide +kernel
theorem dX10_failAt_5 : decode cX10_failAt 5 = .ok (.aload_n 0, 1) := by decide +kernel
theorem dX10_failAt_6 : decode cX10_failAt 6 = .ok (.iload_n 1, 1) := by decide +kernel
theorem dX10_failAt_7 : decode cX10_failAt 7 = .ok (.putfield 35, 3) := by decide +kernel
theorem dX10_failAt_10 : decode cX10_failAt 10 = .ok (.iconst 0, 1) := by decide +kernel
theorem dX10_failAt_11 : decode cX10_failAt 11 = .ok (.ireturn, 1) := by decide +kernel
def fX10_failAt (F : Nat) (a0 : Nat) (a1 : Int) (a2 : Int) (h : HF) : RO :=
  zpf h a0 0 a2 fun h =>
  zpf h a0 1 a1 fun h =>
  zrz 0 h
set_option maxHeartbeats 4000000 in
set_option maxRecDepth 100000 in
theorem mX10_failAt (F : Nat) (l : Launch) (g : zG) (B : Nat) (h : HF) (a0 : Nat) (a1 : Int) (a2 : Int) (ra0 : kt a0 = 13) (ra1 : rng a1) (ra2 : rng a2) : CTi l g B yX10_failAt cX10_failAt 3 (some .boolean) 0 [.ref (B + a0), .int (ii a1), .int (ii a2)] h (fX10_failAt F a0 a1 a2 h) := by
  refine z_enterI (by decide) rfl (Nat.le_of_ble_eq_true rfl) ?_
  intro p e s m args below meth c ls o Q cx hp hl hf hQ
  have hl : lv_has ls 3 [(0, .ref (B + a0)), (1, .int (ii a1)), (2, .int (ii a2))] := hl
  unfold fX10_failAt at hf
  refine lv_aload_n cx.1 cx.2.1 dX10_failAt_0 rfl (lv_at hl 0 rfl) ?_
  refine lv_iload_n cx.1 cx.2.1 dX10_failAt_1 rfl (lv_at hl 2 rfl) ?_
  refine z_puti cx hp (T := TX10) tyX10 tyX10_ok nmX10 10 0 ra2 rfl zin_10 (by decide) (by decide) ra0 rfl rfl rfl fl_X10_32 dX10_failAt_2 hf (fun h H locs hp hf => ?_)
  refine lv_aload_n cx.1 cx.2.1 dX10_failAt_5 rfl (lv_at hl 0 rfl) ?_
  refine lv_iload_n cx.1 cx.2.1 dX10_failAt_6 rfl (lv_at hl 1 rfl) ?_
  refine z_puti cx hp (T := TX10) tyX10 tyX10_ok nmX10 10 1 ra1 rfl zin_10 (by decide) (by decide) ra0 rfl rfl rfl fl_X10_35 dX10_failAt_7 hf (fun h H locs hp hf => ?_)
  refine z_iconst cx dX10_failAt_10 ?_
  rw [hQ]; exact z_zret cx hp dX10_failAt_11 hf
theorem dX10_passOver_0 : decode cX10_passOver 0 = .ok (.aload_n 1, 1) := by decide +kernel
theorem dX10_passOver_1 : decode cX10_passOver 1 = .ok (.iconst 0, 1) := by decide +kernel
theorem dX10_passOver_2 : decode cX10_passOver 2 = .ok (.putfield 38, 3) := by decide +kernel
theorem dX10_passOver_5 : decode cX10_passOver 5 = .ok (.return_, 1) := by decide +kernel
def fX10_passOver (F : Nat) (a0 : Nat) (a1 : Nat) (h : HF) : RO :=
  zpf h a1 1 0 fun h =>
  some (0, h)
set_option maxHeartbeats 4000000 in
set_option maxRecDepth 100000 in
theorem mX10_passOver (F : Nat) (l : Launch) (g : zG) (B : Nat) (h : HF) (a0 : Nat) (a1 : Nat) (ra0 : kt a0 = 13) (ra1 : kt a1 = 4) : CTv l g B yX10_passOver cX10_passOver 2 0 [.ref (B + a0), .ref (B + a1)] h (fX10_passOver F a0 a1 h) := by
  refine z_enterV (by decide) rfl (Nat.le_of_ble_eq_true rfl) ?_
  intro p e s m args below meth c ls o Q cx hp hl hf hQ
  have hl : lv_has ls 2 [(0, .ref (B + a0)), (1, .ref (B + a1))] := hl
  unfold fX10_passOver at hf
  refine lv_aload_n cx.1 cx.2.1 dX10_passOver_0 rfl (lv_at hl 1 rfl) ?_
  refine z_iconst cx dX10_passOver_1 ?_
  refine z_puti cx hp (T := TX1) tyX1 tyX1_ok nmX1 1 1 (by decide) rfl zin_1 (by decide) (by decide) ra1 rfl rfl rfl fl_X10_38 dX10_passOver_2 hf (fun h H locs hp hf => ?_)
  rw [hQ]; exact z_vret cx hp dX10_passOver_5 hf
theorem dX10_arityOf_0 : decode cX10_arityOf 0 = .ok (.iload_n 0, 1) := by decide +kernel
theorem dX10_arityOf_1 : decode cX10_arityOf 1 = .ok (.lookupswitch 41 #[(98, 39), (99, 35), (117, 37)], 35) := by decide +kernel
theorem dX10_arityOf_42 : decode cX10_arityOf 42 = .ok (.iconst (-1), 1) := by decide +kernel
theorem dX10_arityOf_43 : decode cX10_arityOf 43 = .ok (.ireturn, 1) := by decide +kernel
theorem dX10_arityOf_38 : decode cX10_arityOf 38 = .ok (.iconst 1, 1) := by decide +kernel
theorem dX10_arityOf_39 : decode cX10_arityOf 39 = .ok (.ireturn, 1) := by decide +kernel
theorem dX10_arityOf_36 : decode cX10_arityOf 36 = .ok (.iconst 0, 1) := by decide +kernel
theorem dX10_arityOf_37 : decode cX10_arityOf 37 = .ok (.ireturn, 1) := by decide +kernel
theorem dX10_arityOf_40 : decode cX10_arityOf 40 = .ok (.iconst 2, 1) := by decide +kernel
theorem dX10_arityOf_41 : decode cX10_arityOf 41 = .ok (.ireturn, 1) := by decide +kernel
def fX10_arityOf (F : Nat) (a0 : Int) (h : HF) : RO :=
  if a0 = 98 then (
    some (2, h)
  ) else (
  if a0 = 99 then (
    some (0, h)
  ) else (
  if a0 = 117 then (
    some (1, h)
  ) else (
    some ((-1), h)
  )
  )
  )
set_option maxHeartbeats 4000000 in
set_option maxRecDepth 100000 in
theorem mX10_arityOf (F : Nat) (l : Launch) (g : zG) (B : Nat) (h : HF) (a0 : Int) (ra0 : rng a0) : CTi l g B yX10_arityOf cX10_arityOf 1 (some .int) 0 [.int (ii a0)] h (fX10_arityOf F a0 h) := by
  refine z_enterI (by decide) rfl (Nat.le_of_ble_eq_true rfl) ?_
  intro p e s m args below meth c ls o Q cx hp hl hf hQ
  have hl : lv_has ls 1 [(0, .int (ii a0))] := hl
  unfold fX10_arityOf at hf
  refine lv_iload_n cx.1 cx.2.1 dX10_arityOf_0 rfl (lv_at hl 0 rfl) ?_
  refine ite_inv hf (fun c1 hf => ?_) (fun c1 hf => ?_)
  · refine lv_lookup (off := 39) (tgt := 40) cx.1 cx.2.1 dX10_arityOf_1 (by decide) (by rw [c1]; decide) (by decide) ?_
    refine z_iconst cx dX10_arityOf_40 ?_
    rw [hQ]; exact z_iret cx hp (by decide) dX10_arityOf_41 hf
  · refine ite_inv hf (fun c2 hf => ?_) (fun c2 hf => ?_)
    · refine lv_lookup (off := 35) (tgt := 36) cx.1 cx.2.1 dX10_arityOf_1 (by decide) (by rw [c2]; decide) (by decide) ?_
      refine z_iconst cx dX10_arityOf_36 ?_
      rw [hQ]; exact z_iret cx hp (by decide) dX10_arityOf_37 hf
    · refine ite_inv hf (fun c3 hf => ?_) (fun c3 hf => ?_)
      · refine lv_lookup (off := 37) (tgt := 38) cx.1 cx.2.1 dX10_arityOf_1 (by decide) (by rw [c3]; decide) (by decide) ?_
        refine z_iconst cx dX10_arityOf_38 ?_
        rw [hQ]; exact z_iret cx hp (by decide) dX10_arityOf_39 hf
      · refine lv_lookup (off := 41) (tgt := 42) cx.1 cx.2.1 dX10_arityOf_1 (by decide) (by rw [ii_ti ra0]; exact ((if_neg (fun q => c1 q.symm)).trans ((if_neg (fun q => c2 q.symm)).trans ((if_neg (fun q => c3 q.symm)).trans rfl)))) (by decide) ?_
        refine z_iconst cx dX10_arityOf_42 ?_
        rw [hQ]; exact z_iret cx hp (by decide) dX10_arityOf_43 hf
theorem dX10_readCell_0 : decode cX10_readCell 0 = .ok (.aload_n 0, 1) := by decide +kernel
theorem dX10_readCell_1 : decode cX10_readCell 1 = .ok (.getfield 24, 3) := by decide +kernel
theorem dX10_readCell_4 : decode cX10_readCell 4 = .ok (.aload_n 0, 1) := by decide +kernel
theorem dX10_readCell_5 : decode cX10_readCell 5 = .ok (.getfield 28, 3) := by decide +kernel
theorem dX10_readCell_8 : decode cX10_readCell 8 = .ok (.invokevirtual 51, 3) := by decide +kernel
theorem dX10_readCell_11 : decode cX10_readCell 11 = .ok (.bipush 48, 2) := by decide +kernel
theorem dX10_readCell_13 : decode cX10_readCell 13 = .ok (.isub, 1) := by decide +kernel
theorem dX10_readCell_14 : decode cX10_readCell 14 = .ok (.istore_n 3, 1) := by decide +kernel
theorem dX10_readCell_15 : decode cX10_readCell 15 = .ok (.iload_n 3, 1) := by decide +kernel
theorem dX10_readCell_16 : decode cX10_readCell 16 = .ok (.ifCond .lt 9, 3) := by decide +kernel
theorem dX10_readCell_19 : decode cX10_readCell 19 = .ok (.iload_n 3, 1) := by decide +kernel
theorem dX10_readCell_20 : decode cX10_readCell 20 = .ok (.bipush 9, 2) := by decide +kernel
theorem dX10_readCell_22 : decode cX10_readCell 22 = .ok (.if_icmp .le 13, 3) := by decide +kernel
theorem dX10_readCell_35 : decode cX10_readCell 35 = .ok (.iload_n 3, 1) := by decide +kernel
theorem dX10_readCell_36 : decode cX10_readCell 36 = .ok (.aload_n 1, 1) := by decide +kernel
theorem dX10_readCell_37 : decode cX10_readCell 37 = .ok (.getfield 85, 3) := by decide +kernel
theorem dX10_readCell_40 : decode cX10_readCell 40 = .ok (.if_icmp .lt 13, 3) := by decide +kernel
theorem dX10_readCell_43 : decode cX10_readCell 43 = .ok (.aload_n 0, 1) := by decide +kernel
theorem dX10_readCell_44 : decode cX10_readCell 44 = .ok (.aload_n 0, 1) := by decide +kernel
theorem dX10_readCell_45 : decode cX10_readCell 45 = .ok (.getfield 28, 3) := by decide +kernel
theorem dX10_readCell_48 : decode cX10_readCell 48 = .ok (.iconst 2, 1) := by decide +kernel
theorem dX10_readCell_49 : decode cX10_readCell 49 = .ok (.invokevirtual 55, 3) := by decide +kernel
theorem dX10_readCell_52 : decode cX10_readCell 52 = .ok (.ireturn, 1) := by decide +kernel
theorem dX10_readCell_53 : decode cX10_readCell 53 = .ok (.aload_n 1, 1) := by decide +kernel
theorem dX10_readCell_54 : decode cX10_readCell 54 = .ok (.getfield 88, 3) := by decide +kernel
theorem dX10_readCell_57 : decode cX10_readCell 57 = .ok (.iload_n 2, 1) := by decide +kernel
theorem dX10_readCell_58 : decode cX10_readCell 58 = .ok (.iload_n 3, 1) := by decide +kernel
theorem dX10_readCell_59 : decode cX10_readCell 59 = .ok (.iastore, 1) := by decide +kernel
theorem dX10_readCell_60 : decode cX10_readCell 60 = .ok (.aload_n 0, 1) := by decide +kernel
theorem dX10_readCell_61 : decode cX10_readCell 61 = .ok (.dup, 1) := by decide +kernel
theorem dX10_readCell_62 : decode cX10_readCell 62 = .ok (.getfield 28, 3) := by decide +kernel
theorem dX10_readCell_65 : decode cX10_readCell 65 = .ok (.iconst 1, 1) := by decide +kernel
theorem dX10_readCell_66 : decode cX10_readCell 66 = .ok (.iadd, 1) := by decide +kernel
theorem dX10_readCell_67 : decode cX10_readCell 67 = .ok (.putfield 28, 3) := by decide +kernel
theorem dX10_readCell_70 : decode cX10_readCell 70 = .ok (.iconst 1, 1) := by decide +kernel
theorem dX10_readCell_71 : decode cX10_readCell 71 = .ok (.ireturn, 1) := by decide +kernel
theorem dX10_readCell_25 : decode cX10_readCell 25 = .ok (.aload_n 0, 1) := by decide +kernel
theorem dX10_readCell_26 : decode cX10_readCell 26 = .ok (.aload_n 0, 1) := by decide +kernel
theorem dX10_readCell_27 : decode cX10_readCell 27 = .ok (.getfield 28, 3) := by decide +kernel
theorem dX10_readCell_30 : decode cX10_readCell 30 = .ok (.iconst 1, 1) := by decide +kernel
theorem dX10_readCell_31 : decode cX10_readCell 31 = .ok (.invokevirtual 55, 3) := by decide +kernel
theorem dX10_readCell_34 : decode cX10_readCell 34 = .ok (.ireturn, 1) := by decide +kernel
def fX10_readCell (F : Nat) (a0 : Nat) (a1 : Nat) (a2 : Int) (h : HF) : RO :=
  zgd h a0 2 fun x1 =>
  zgf h a0 3 fun x2 =>
  zbd (fX1_byteAt F x1 x2 h) fun r3 h =>
  zlet (wr (r3 - 48)) fun x4 =>
  zjn (fun  (h : HF) => (
    zgf h a0 3 fun x5 =>
    zbd (fX10_failAt F a0 x5 1 h) fun r6 h =>
    zrz r6 h
  )) fun j25 =>
  if x4 < 0 then (
    j25  h
  ) else (
    if 9 < x4 then (
      j25  h
    ) else (
      zgf h a1 0 fun x7 =>
      if x4 < x7 then (
        zwr h (a1 + 3) a2 x4 fun h =>
        zgf h a0 3 fun x8 =>
        zpf h a0 3 (wr (x8 + 1)) fun h =>
        zrz 1 h
      ) else (
        zgf h a0 3 fun x9 =>
        zbd (fX10_failAt F a0 x9 2 h) fun r10 h =>
        zrz r10 h
      )
    )
  )
set_option maxHeartbeats 4000000 in
set_option maxRecDepth 100000 in
theorem mX10_readCell (F : Nat) (l : Launch) (g : zG) (B : Nat) (h : HF) (a0 : Nat) (a1 : Nat) (a2 : Int) (ra0 : kt a0 = 13) (ra1 : kt a1 = 3) (ra2 : rng a2) : CTi l g B yX10_readCell cX10_readCell 4 (some .boolean) 1 [.ref (B + a0), .ref (B + a1), .int (ii a2)] h (fX10_readCell F a0 a1 a2 h) := by
  refine z_enterI (by decide) rfl (Nat.le_of_ble_eq_true rfl) ?_
  intro p e s m args below meth c ls o Q cx hp hl hf hQ
  have hl : lv_has ls 4 [(0, .ref (B + a0)), (1, .ref (B + a1)), (2, .int (ii a2))] := hl
  unfold fX10_readCell at hf
  refine lv_aload_n cx.1 cx.2.1 dX10_readCell_0 rfl (lv_at hl 0 rfl) ?_
  refine z_getd cx hp (T := TX10) 10 2 4 rfl zin_10 (by decide) (by decide) ra0 rfl fl_X10_24 dX10_readCell_1 hf (fun x1 rx1 hf => ?_)
  refine lv_aload_n cx.1 cx.2.1 dX10_readCell_4 rfl (lv_at hl 0 rfl) ?_
  refine z_geti cx hp (T := TX10) 10 3 rfl zin_10 (by decide) (by decide) ra0 rfl fl_X10_28 dX10_readCell_5 hf (fun x2 rx2 hf => ?_)
  refine z_ci cx hp (fun o' hx => zrunV (n := 1) (As := [.int (ii x2)]) (rest := []) cx hp (mX1_byteAt F l g B h x1 x2 rx1 rx2 o' hx) 1 rx1 (by decide) rfl vw_X1_byteAt ml_X10_51 (by decide) rfl hl.1 rfl (Nat.le_of_ble_eq_true rfl) dX10_readCell_8) hf (fun r3 h H locs rr3 hp hf => ?_)
  refine z_bipush cx (by decide) dX10_readCell_11 ?_
  refine z_isub cx dX10_readCell_13 ?_
  refine z_let (rng_wr _) hf (fun x4 rx4 hf => ?_)
  refine lv_istore_n (lv' := [(3, .int (ii x4)), (0, .ref (B + a0)), (1, .ref (B + a1)), (2, .int (ii a2))]) cx.1 cx.2.1 dX10_readCell_14 rfl hl (by decide) rfl (fun ls hl => ?_)
  refine lv_iload_n cx.1 cx.2.1 dX10_readCell_15 rfl (lv_at hl 0 rfl) ?_
  refine z_jn hf (fun j => ∀  (h : HF) (H : Heap) (locs : List Loc) (ls : Array Slot), Hp g B s h H locs → lv_has ls 4 [(0, .ref (B + a0))] → j  h = some o → W p l e (rmn 1) s m args below meth c H locs 0 0 Q (F0 m 25 ls [])) ?_ (fun j25 hj25 hf => ?_)
  · intro  h H locs ls  hp hl hf
    refine lv_aload_n cx.1 cx.2.1 dX10_readCell_25 rfl (lv_at hl 0 rfl) ?_
    refine lv_aload_n cx.1 cx.2.1 dX10_readCell_26 rfl (lv_at hl 0 rfl) ?_
    refine z_geti cx hp (T := TX10) 10 3 rfl zin_10 (by decide) (by decide) ra0 rfl fl_X10_28 dX10_readCell_27 hf (fun x5 rx5 hf => ?_)
    refine z_iconst cx dX10_readCell_30 ?_
    refine z_ci cx hp (fun o' hx => zrunV (n := 1) (As := [.int (ii x5), .int (ii 1)]) (rest := []) cx hp (mX10_failAt F l g B h a0 x5 1 ra0 rx5 (by decide) o' hx) 10 ra0 (by decide) rfl vw_X10_failAt ml_X10_55 (by decide) rfl hl.1 rfl (Nat.le_of_ble_eq_true rfl) dX10_readCell_31) hf (fun r6 h H locs rr6 hp hf => ?_)
    rw [hQ]; exact z_zret cx hp dX10_readCell_34 hf
  refine z_if_lt cx rx4 (tgt := 25) dX10_readCell_16 (by decide) hf (fun _ hf => ?_) (fun _ hf => ?_)
  · exact hj25  h _ _ ls  hp (lv_sub hl [1] rfl) hf
  · refine lv_iload_n cx.1 cx.2.1 dX10_readCell_19 rfl (lv_at hl 0 rfl) ?_
    refine z_bipush cx (by decide) dX10_readCell_20 ?_
    refine z_icmp_le cx rx4 (by decide) (tgt := 35) dX10_readCell_22 (by decide) hf (fun _ hf => ?_) (fun _ hf => ?_)
    · exact hj25  h _ _ ls  hp (lv_sub hl [1] rfl) hf
    · refine lv_iload_n cx.1 cx.2.1 dX10_readCell_35 rfl (lv_at hl 0 rfl) ?_
      refine lv_aload_n cx.1 cx.2.1 dX10_readCell_36 rfl (lv_at hl 2 rfl) ?_
      refine z_geti cx hp (T := TX0) 0 0 rfl zin_0 (by decide) (by decide) ra1 rfl fl_X10_85 dX10_readCell_37 hf (fun x7 rx7 hf => ?_)
      refine z_icmp_lt cx rx4 rx7 (tgt := 53) dX10_readCell_40 (by decide) hf (fun _ hf => ?_) (fun _ hf => ?_)
      · refine lv_aload_n cx.1 cx.2.1 dX10_readCell_53 rfl (lv_at hl 2 rfl) ?_
        refine z_gets cx hp (T := TX0) 0 5 (a1 + 3) rfl zin_0 (by decide) (by decide) ra1 rfl fl_X10_88 dX10_readCell_54 ?_
        refine lv_iload_n cx.1 cx.2.1 dX10_readCell_57 rfl (lv_at hl 3 rfl) ?_
        refine lv_iload_n cx.1 cx.2.1 dX10_readCell_58 rfl (lv_at hl 0 rfl) ?_
        refine z_iast cx hp (zs_0_5 a1 (kt_lt ra1 (by decide)) ra1) ra2 rx4 dX10_readCell_59 hf (fun h H locs hp hf => ?_)
        refine lv_aload_n cx.1 cx.2.1 dX10_readCell_60 rfl (lv_at hl 1 rfl) ?_
        refine lv_dup cx.1 cx.2.1 dX10_readCell_61 rfl ?_
        refine z_geti cx hp (T := TX10) 10 3 rfl zin_10 (by decide) (by decide) ra0 rfl fl_X10_28 dX10_readCell_62 hf (fun x8 rx8 hf => ?_)
        refine z_iconst cx dX10_readCell_65 ?_
        refine z_iadd cx dX10_readCell_66 ?_
        refine z_puti cx hp (T := TX10) tyX10 tyX10_ok nmX10 10 3 (rng_wr _) rfl zin_10 (by decide) (by decide) ra0 rfl rfl rfl fl_X10_28 dX10_readCell_67 hf (fun h H locs hp hf => ?_)
        refine z_iconst cx dX10_readCell_70 ?_
        rw [hQ]; exact z_zret cx hp dX10_readCell_71 hf
      · refine lv_aload_n cx.1 cx.2.1 dX10_readCell_43 rfl (lv_at hl 1 rfl) ?_
        refine lv_aload_n cx.1 cx.2.1 dX10_readCell_44 rfl (lv_at hl 1 rfl) ?_
        refine z_geti cx hp (T := TX10) 10 3 rfl zin_10 (by decide) (by decide) ra0 rfl fl_X10_28 dX10_readCell_45 hf (fun x9 rx9 hf => ?_)
        refine z_iconst cx dX10_readCell_48 ?_
        refine z_ci cx hp (fun o' hx => zrunV (n := 1) (As := [.int (ii x9), .int (ii 2)]) (rest := []) cx hp (mX10_failAt F l g B h a0 x9 2 ra0 rx9 (by decide) o' hx) 10 ra0 (by decide) rfl vw_X10_failAt ml_X10_55 (by decide) rfl hl.1 rfl (Nat.le_of_ble_eq_true rfl) dX10_readCell_49) hf (fun r10 h H locs rr10 hp hf => ?_)
        rw [hQ]; exact z_zret cx hp dX10_readCell_52 hf
theorem dX10_gatherSigns_0 : decode cX10_gatherSigns 0 = .ok (.iconst 0, 1) := by decide +kernel
theorem dX10_gatherSigns_1 : decode cX10_gatherSigns 1 = .ok (.istore_n 1, 1) := by decide +kernel
theorem dX10_gatherSigns_2 : decode cX10_gatherSigns 2 = .ok (.iconst 0, 1) := by decide +kernel
theorem dX10_gatherSigns_3 : decode cX10_gatherSigns 3 = .ok (.istore_n 2, 1) := by decide +kernel
theorem dX10_gatherSigns_4 : decode cX10_gatherSigns 4 = .ok (.iload_n 2, 1) := by decide +kernel
theorem dX10_gatherSigns_5 : decode cX10_gatherSigns 5 = .ok (.aload_n 0, 1) := by decide +kernel
theorem dX10_gatherSigns_6 : decode cX10_gatherSigns 6 = .ok (.getfield 24, 3) := by decide +kernel
theorem dX10_gatherSigns_9 : decode cX10_gatherSigns 9 = .ok (.getfield 38, 3) := by decide +kernel
theorem dX10_gatherSigns_12 : decode cX10_gatherSigns 12 = .ok (.if_icmp .ge 47, 3) := by decide +kernel
theorem dX10_gatherSigns_15 : decode cX10_gatherSigns 15 = .ok (.aload_n 0, 1) := by decide +kernel
theorem dX10_gatherSigns_16 : decode cX10_gatherSigns 16 = .ok (.getfield 24, 3) := by decide +kernel
theorem dX10_gatherSigns_19 : decode cX10_gatherSigns 19 = .ok (.iload_n 2, 1) := by decide +kernel
theorem dX10_gatherSigns_20 : decode cX10_gatherSigns 20 = .ok (.invokevirtual 51, 3) := by decide +kernel
theorem dX10_gatherSigns_23 : decode cX10_gatherSigns 23 = .ok (.istore_n 3, 1) := by decide +kernel
theorem dX10_gatherSigns_24 : decode cX10_gatherSigns 24 = .ok (.iload_n 3, 1) := by decide +kernel
theorem dX10_gatherSigns_25 : decode cX10_gatherSigns 25 = .ok (.bipush 32, 2) := by decide +kernel
theorem dX10_gatherSigns_27 : decode cX10_gatherSigns 27 = .ok (.if_icmp .eq 26, 3) := by decide +kernel
theorem dX10_gatherSigns_30 : decode cX10_gatherSigns 30 = .ok (.iload_n 3, 1) := by decide +kernel
theorem dX10_gatherSigns_31 : decode cX10_gatherSigns 31 = .ok (.bipush 10, 2) := by decide +kernel
theorem dX10_gatherSigns_33 : decode cX10_gatherSigns 33 = .ok (.if_icmp .eq 20, 3) := by decide +kernel
theorem dX10_gatherSigns_36 : decode cX10_gatherSigns 36 = .ok (.aload_n 0, 1) := by decide +kernel
theorem dX10_gatherSigns_37 : decode cX10_gatherSigns 37 = .ok (.getfield 9, 3) := by decide +kernel
theorem dX10_gatherSigns_40 : decode cX10_gatherSigns 40 = .ok (.iload_n 1, 1) := by decide +kernel
theorem dX10_gatherSigns_41 : decode cX10_gatherSigns 41 = .ok (.iload_n 3, 1) := by decide +kernel
theorem dX10_gatherSigns_42 : decode cX10_gatherSigns 42 = .ok (.iastore, 1) := by decide +kernel
theorem dX10_gatherSigns_43 : decode cX10_gatherSigns 43 = .ok (.aload_n 0, 1) := by decide +kernel
theorem dX10_gatherSigns_44 : decode cX10_gatherSigns 44 = .ok (.getfield 15, 3) := by decide +kernel
theorem dX10_gatherSigns_47 : decode cX10_gatherSigns 47 = .ok (.iload_n 1, 1) := by decide +kernel
theorem dX10_gatherSigns_48 : decode cX10_gatherSigns 48 = .ok (.iload_n 2, 1) := by decide +kernel
theorem dX10_gatherSigns_49 : decode cX10_gatherSigns 49 = .ok (.iastore, 1) := by decide +kernel
theorem dX10_gatherSigns_50 : decode cX10_gatherSigns 50 = .ok (.iinc 1 1, 3) := by decide +kernel
theorem dX10_gatherSigns_53 : decode cX10_gatherSigns 53 = .ok (.iinc 2 1, 3) := by decide +kernel
theorem dX10_gatherSigns_56 : decode cX10_gatherSigns 56 = .ok (.goto (-52), 3) := by decide +kernel
theorem dX10_gatherSigns_59 : decode cX10_gatherSigns 59 = .ok (.aload_n 0, 1) := by decide +kernel
theorem dX10_gatherSigns_60 : decode cX10_gatherSigns 60 = .ok (.getfield 9, 3) := by decide +kernel
theorem dX10_gatherSigns_63 : decode cX10_gatherSigns 63 = .ok (.iload_n 1, 1) := by decide +kernel
theorem dX10_gatherSigns_64 : decode cX10_gatherSigns 64 = .ok (.iconst (-1), 1) := by decide +kernel
theorem dX10_gatherSigns_65 : decode cX10_gatherSigns 65 = .ok (.iastore, 1) := by decide +kernel
theorem dX10_gatherSigns_66 : decode cX10_gatherSigns 66 = .ok (.aload_n 0, 1) := by decide +kernel
theorem dX10_gatherSigns_67 : decode cX10_gatherSigns 67 = .ok (.getfield 15, 3) := by decide +kernel
theorem dX10_gatherSigns_70 : decode cX10_gatherSigns 70 = .ok (.iload_n 1, 1) := by decide +kernel
theorem dX10_gatherSigns_71 : decode cX10_gatherSigns 71 = .ok (.aload_n 0, 1) := by decide +kernel
theorem dX10_gatherSigns_72 : decode cX10_gatherSigns 72 = .ok (.getfield 24, 3) := by decide +kernel
theorem dX10_gatherSigns_75 : decode cX10_gatherSigns 75 = .ok (.getfield 38, 3) := by decide +kernel
theorem dX10_gatherSigns_78 : decode cX10_gatherSigns 78 = .ok (.iastore, 1) := by decide +kernel
theorem dX10_gatherSigns_79 : decode cX10_gatherSigns 79 = .ok (.return_, 1) := by decide +kernel
def LX10_gatherSigns_4 (F : Nat) (u0 : Nat) (k59 : Int → HF → RO) : Nat → Int → Int → HF → RO
  | 0, _, _, _ => none
  | n + 1, v1, v2, h =>
    zgd h u0 2 fun x3 =>
    zgf h x3 1 fun x4 =>
    if v2 < x4 then (
      zgd h u0 2 fun x5 =>
      zbd (fX1_byteAt F x5 v2 h) fun r6 h =>
      zjn (fun (x53_1 : Int) (x53_2 : Int) (h : HF) => (
        zlet (wr (x53_2 + 1)) fun x7 =>
        LX10_gatherSigns_4 F u0 k59 n x53_1 x7 h
      )) fun j53 =>
      if r6 = 32 then (
        j53 v1 v2 h
      ) else (
        if r6 = 10 then (
          j53 v1 v2 h
        ) else (
          zwr h (u0 + 1) v1 r6 fun h =>
          zwr h (u0 + 2) v1 v2 fun h =>
          zlet (wr (v1 + 1)) fun x8 =>
          j53 x8 v2 h
        )
      )
    ) else (
      k59 v1 h
    )
set_option maxHeartbeats 4000000 in
set_option maxRecDepth 100000 in
theorem wX10_gatherSigns_4 {p : Program} {l : Launch} {e : Env} {s : State} {m : MethodId} {args : Array Value} {below : List Frame} {meth : Method} {c : Code} {Q : State → Prop} {g : zG} {B : Nat} {o : Int × HF} (F : Nat) (cx : Cx p s m args meth c cX10_gatherSigns 4 RX10 none g B) (u0 : Nat) (ru0 : kt u0 = 13) (k59 : Int → HF → RO) (hk59 : ∀ (x1 : Int) (h : HF) (H : Heap) (locs : List Loc) (ls : Array Slot), rng x1 → Hp g B s h H locs → lv_has ls 4 [(0, .ref (B + u0)), (1, .int (ii x1))] → k59 x1 h = some o → W p l e (rmn 1) s m args below meth c H locs 0 0 Q (F0 m 59 ls [])) : ∀ (n : Nat) (v1 : Int) (v2 : Int) (h : HF) (H : Heap) (locs : List Loc) (ls : Array Slot), rng v1 → rng v2 → Hp g B s h H locs → lv_has ls 4 [(0, .ref (B + u0)), (1, .int (ii v1)), (2, .int (ii v2))] → LX10_gatherSigns_4 F u0 k59 n v1 v2 h = some o → W p l e (rmn 1) s m args below meth c H locs 0 0 Q (F0 m 4 ls []) := by
  intro n
  induction n with
  | zero =>
    intro v1 v2 h H locs ls rv1 rv2 hp hl hf
    cases hf
  | succ n ih =>
    intro v1 v2 h H locs ls rv1 rv2 hp hl hf
    rw [LX10_gatherSigns_4] at hf
    refine lv_iload_n cx.1 cx.2.1 dX10_gatherSigns_4 rfl (lv_at hl 2 rfl) ?_
    refine lv_aload_n cx.1 cx.2.1 dX10_gatherSigns_5 rfl (lv_at hl 0 rfl) ?_
    refine z_getd cx hp (T := TX10) 10 2 4 rfl zin_10 (by decide) (by decide) ru0 rfl fl_X10_24 dX10_gatherSigns_6 hf (fun x3 rx3 hf => ?_)
    refine z_geti cx hp (T := TX1) 1 1 rfl zin_1 (by decide) (by decide) rx3 rfl fl_X10_38 dX10_gatherSigns_9 hf (fun x4 rx4 hf => ?_)
    refine z_icmp_ge cx rv2 rx4 (tgt := 59) dX10_gatherSigns_12 (by decide) hf (fun _ hf => ?_) (fun _ hf => ?_)
    · refine lv_aload_n cx.1 cx.2.1 dX10_gatherSigns_15 rfl (lv_at hl 0 rfl) ?_
      refine z_getd cx hp (T := TX10) 10 2 4 rfl zin_10 (by decide) (by decide) ru0 rfl fl_X10_24 dX10_gatherSigns_16 hf (fun x5 rx5 hf => ?_)
      refine lv_iload_n cx.1 cx.2.1 dX10_gatherSigns_19 rfl (lv_at hl 2 rfl) ?_
      refine z_ci cx hp (fun o' hx => zrunV (n := 1) (As := [.int (ii v2)]) (rest := []) cx hp (mX1_byteAt F l g B h x5 v2 rx5 rv2 o' hx) 1 rx5 (by decide) rfl vw_X1_byteAt ml_X10_51 (by decide) rfl hl.1 rfl (Nat.le_of_ble_eq_true rfl) dX10_gatherSigns_20) hf (fun r6 h H locs rr6 hp hf => ?_)
      refine lv_istore_n (lv' := [(3, .int (ii r6)), (0, .ref (B + u0)), (1, .int (ii v1)), (2, .int (ii v2))]) cx.1 cx.2.1 dX10_gatherSigns_23 rfl hl (by decide) rfl (fun ls hl => ?_)
      refine lv_iload_n cx.1 cx.2.1 dX10_gatherSigns_24 rfl (lv_at hl 0 rfl) ?_
      refine z_bipush cx (by decide) dX10_gatherSigns_25 ?_
      refine z_jn hf (fun j => ∀ (x53_1 : Int) (x53_2 : Int) (h : HF) (H : Heap) (locs : List Loc) (ls : Array Slot), rng x53_1 → rng x53_2 → Hp g B s h H locs → lv_has ls 4 [(0, .ref (B + u0)), (1, .int (ii x53_1)), (2, .int (ii x53_2))] → j x53_1 x53_2 h = some o → W p l e (rmn 1) s m args below meth c H locs 0 0 Q (F0 m 53 ls [])) ?_ (fun j53 hj53 hf => ?_)
      · intro x53_1 x53_2 h H locs ls rx53_1 rx53_2 hp hl hf
        refine z_iinc cx (fun x7 => [(2, .int (ii x7)), (0, .ref (B + u0)), (1, .int (ii x53_1))]) dX10_gatherSigns_53 hl (k := 2) rfl (by decide) (fun _ => rfl) hf (fun x7 rx7 hf ls hl => ?_)
        refine lv_goto (tgt := 4) cx.1 cx.2.1 dX10_gatherSigns_56 (by decide) ?_
        exact ih x53_1 x7 h _ _ ls rx53_1 rx7 hp (lv_sub hl [1, 2, 0] rfl) hf
      refine z_icmp_eq cx rr6 (by decide) (tgt := 53) dX10_gatherSigns_27 (by decide) hf (fun _ hf => ?_) (fun _ hf => ?_)
      · exact hj53 v1 v2 h _ _ ls rv1 rv2 hp (lv_sub hl [1, 2, 3] rfl) hf
      · refine lv_iload_n cx.1 cx.2.1 dX10_gatherSigns_30 rfl (lv_at hl 0 rfl) ?_
        refine z_bipush cx (by decide) dX10_gatherSigns_31 ?_
        refine z_icmp_eq cx rr6 (by decide) (tgt := 53) dX10_gatherSigns_33 (by decide) hf (fun _ hf => ?_) (fun _ hf => ?_)
        · exact hj53 v1 v2 h _ _ ls rv1 rv2 hp (lv_sub hl [1, 2, 3] rfl) hf
        · refine lv_aload_n cx.1 cx.2.1 dX10_gatherSigns_36 rfl (lv_at hl 1 rfl) ?_
          refine z_gets cx hp (T := TX10) 10 5 (u0 + 1) rfl zin_10 (by decide) (by decide) ru0 rfl fl_X10_9 dX10_gatherSigns_37 ?_
          refine lv_iload_n cx.1 cx.2.1 dX10_gatherSigns_40 rfl (lv_at hl 2 rfl) ?_
          refine lv_iload_n cx.1 cx.2.1 dX10_gatherSigns_41 rfl (lv_at hl 0 rfl) ?_
          refine z_iast cx hp (zs_10_5 u0 (kt_lt ru0 (by decide)) ru0) rv1 rr6 dX10_gatherSigns_42 hf (fun h H locs hp hf => ?_)
          refine lv_aload_n cx.1 cx.2.1 dX10_gatherSigns_43 rfl (lv_at hl 1 rfl) ?_
          refine z_gets cx hp (T := TX10) 10 6 (u0 + 2) rfl zin_10 (by decide) (by decide) ru0 rfl fl_X10_15 dX10_gatherSigns_44 ?_
          refine lv_iload_n cx.1 cx.2.1 dX10_gatherSigns_47 rfl (lv_at hl 2 rfl) ?_
          refine lv_iload_n cx.1 cx.2.1 dX10_gatherSigns_48 rfl (lv_at hl 3 rfl) ?_
          refine z_iast cx hp (zs_10_6 u0 (kt_lt ru0 (by decide)) ru0) rv1 rv2 dX10_gatherSigns_49 hf (fun h H locs hp hf => ?_)
          refine z_iinc cx (fun x8 => [(1, .int (ii x8)), (3, .int (ii r6)), (0, .ref (B + u0)), (2, .int (ii v2))]) dX10_gatherSigns_50 hl (k := 2) rfl (by decide) (fun _ => rfl) hf (fun x8 rx8 hf ls hl => ?_)
          exact hj53 x8 v2 h _ _ ls rx8 rv2 hp (lv_sub hl [2, 0, 3] rfl) hf
    · exact hk59 v1 h _ _ ls rv1 hp (lv_sub hl [0, 1] rfl) hf
def fX10_gatherSigns (F : Nat) (a0 : Nat) (h : HF) : RO :=
  zjn (fun (x59_1 : Int) (h : HF) => (
    zwr h (a0 + 1) x59_1 (-1) fun h =>
    zgd h a0 2 fun x1 =>
    zgf h x1 1 fun x2 =>
    zwr h (a0 + 2) x59_1 x2 fun h =>
    some (0, h)
  )) fun j59 =>
  LX10_gatherSigns_4 F a0 j59 F 0 0 h
set_option maxHeartbeats 4000000 in
set_option maxRecDepth 100000 in
theorem mX10_gatherSigns (F : Nat) (l : Launch) (g : zG) (B : Nat) (h : HF) (a0 : Nat) (ra0 : kt a0 = 13) : CTv l g B yX10_gatherSigns cX10_gatherSigns 4 1 [.ref (B + a0)] h (fX10_gatherSigns F a0 h) := by
  refine z_enterV (by decide) rfl (Nat.le_of_ble_eq_true rfl) ?_
  intro p e s m args below meth c ls o Q cx hp hl hf hQ
  have hl : lv_has ls 4 [(0, .ref (B + a0))] := hl
  unfold fX10_gatherSigns at hf
  refine z_iconst cx dX10_gatherSigns_0 ?_
  refine lv_istore_n (lv' := [(1, .int (ii 0)), (0, .ref (B + a0))]) cx.1 cx.2.1 dX10_gatherSigns_1 rfl hl (by decide) rfl (fun ls hl => ?_)
  refine z_iconst cx dX10_gatherSigns_2 ?_
  refine lv_istore_n (lv' := [(2, .int (ii 0)), (1, .int (ii 0)), (0, .ref (B + a0))]) cx.1 cx.2.1 dX10_gatherSigns_3 rfl hl (by decide) rfl (fun ls hl => ?_)
  refine z_jn hf (fun j => ∀ (x59_1 : Int) (h : HF) (H : Heap) (locs : List Loc) (ls : Array Slot), rng x59_1 → Hp g B s h H locs → lv_has ls 4 [(0, .ref (B + a0)), (1, .int (ii x59_1))] → j x59_1 h = some o → W p l e (rmn 1) s m args below meth c H locs 0 0 Q (F0 m 59 ls [])) ?_ (fun j59 hj59 hf => ?_)
  · intro x59_1 h H locs ls rx59_1 hp hl hf
    refine lv_aload_n cx.1 cx.2.1 dX10_gatherSigns_59 rfl (lv_at hl 0 rfl) ?_
    refine z_gets cx hp (T := TX10) 10 5 (a0 + 1) rfl zin_10 (by decide) (by decide) ra0 rfl fl_X10_9 dX10_gatherSigns_60 ?_
    refine lv_iload_n cx.1 cx.2.1 dX10_gatherSigns_63 rfl (lv_at hl 1 rfl) ?_
    refine z_iconst cx dX10_gatherSigns_64 ?_
    refine z_iast cx hp (zs_10_5 a0 (kt_lt ra0 (by decide)) ra0) rx59_1 (by decide) dX10_gatherSigns_65 hf (fun h H locs hp hf => ?_)
    refine lv_aload_n cx.1 cx.2.1 dX10_gatherSigns_66 rfl (lv_at hl 0 rfl) ?_
    refine z_gets cx hp (T := TX10) 10 6 (a0 + 2) rfl zin_10 (by decide) (by decide) ra0 rfl fl_X10_15 dX10_gatherSigns_67 ?_
    refine lv_iload_n cx.1 cx.2.1 dX10_gatherSigns_70 rfl (lv_at hl 1 rfl) ?_
    refine lv_aload_n cx.1 cx.2.1 dX10_gatherSigns_71 rfl (lv_at hl 0 rfl) ?_
    refine z_getd cx hp (T := TX10) 10 2 4 rfl zin_10 (by decide) (by decide) ra0 rfl fl_X10_24 dX10_gatherSigns_72 hf (fun x1 rx1 hf => ?_)
    refine z_geti cx hp (T := TX1) 1 1 rfl zin_1 (by decide) (by decide) rx1 rfl fl_X10_38 dX10_gatherSigns_75 hf (fun x2 rx2 hf => ?_)
    refine z_iast cx hp (zs_10_6 a0 (kt_lt ra0 (by decide)) ra0) rx59_1 rx2 dX10_gatherSigns_78 hf (fun h H locs hp hf => ?_)
    rw [hQ]; exact z_vret cx hp dX10_gatherSigns_79 hf
  exact wX10_gatherSigns_4 F cx a0 ra0 j59 hj59 F 0 0 h _ _ ls (by decide) (by decide) hp (lv_sub hl [2, 1, 0] rfl) hf
theorem dX10_failHere_0 : decode cX10_failHere 0 = .ok (.aload_n 0, 1) := by decide +kernel
theorem dX10_failHere_1 : decode cX10_failHere 1 = .ok (.aload_n 0, 1) := by decide +kernel
theorem dX10_failHere_2 : decode cX10_failHere 2 = .ok (.getfield 15, 3) := by decide +kernel
theorem dX10_failHere_5 : decode cX10_failHere 5 = .ok (.aload_n 0, 1) := by decide +kernel
theorem dX10_failHere_6 : decode cX10_failHere 6 = .ok (.getfield 28, 3) := by decide +kernel
theorem dX10_failHere_9 : decode cX10_failHere 9 = .ok (.iaload, 1) := by decide +kernel
theorem dX10_failHere_10 : decode cX10_failHere 10 = .ok (.iload_n 1, 1) := by decide +kernel
theorem dX10_failHere_11 : decode cX10_failHere 11 = .ok (.invokevirtual 55, 3) := by decide +kernel
theorem dX10_failHere_14 : decode cX10_failHere 14 = .ok (.ireturn, 1) := by decide +kernel
def fX10_failHere (F : Nat) (a0 : Nat) (a1 : Int) (h : HF) : RO :=
  zgf h a0 3 fun x1 =>
  zrd h (a0 + 2) x1 fun x2 =>
  zbd (fX10_failAt F a0 x2 a1 h) fun r3 h =>
  zrz r3 h
set_option maxHeartbeats 4000000 in
set_option maxRecDepth 100000 in
theorem mX10_failHere (F : Nat) (l : Launch) (g : zG) (B : Nat) (h : HF) (a0 : Nat) (a1 : Int) (ra0 : kt a0 = 13) (ra1 : rng a1) : CTi l g B yX10_failHere cX10_failHere 2 (some .boolean) 1 [.ref (B + a0), .int (ii a1)] h (fX10_failHere F a0 a1 h) := by
  refine z_enterI (by decide) rfl (Nat.le_of_ble_eq_true rfl) ?_
  intro p e s m args below meth c ls o Q cx hp hl hf hQ
  have hl : lv_has ls 2 [(0, .ref (B + a0)), (1, .int (ii a1))] := hl
  unfold fX10_failHere at hf
  refine lv_aload_n cx.1 cx.2.1 dX10_failHere_0 rfl (lv_at hl 0 rfl) ?_
  refine lv_aload_n cx.1 cx.2.1 dX10_failHere_1 rfl (lv_at hl 0 rfl) ?_
  refine z_gets cx hp (T := TX10) 10 6 (a0 + 2) rfl zin_10 (by decide) (by decide) ra0 rfl fl_X10_15 dX10_failHere_2 ?_
  refine lv_aload_n cx.1 cx.2.1 dX10_failHere_5 rfl (lv_at hl 0 rfl) ?_
  refine z_geti cx hp (T := TX10) 10 3 rfl zin_10 (by decide) (by decide) ra0 rfl fl_X10_28 dX10_failHere_6 hf (fun x1 rx1 hf => ?_)
  refine z_iald cx hp (zs_10_6 a0 (kt_lt ra0 (by decide)) ra0) rx1 dX10_failHere_9 hf (fun x2 rx2 hf => ?_)
  refine lv_iload_n cx.1 cx.2.1 dX10_failHere_10 rfl (lv_at hl 1 rfl) ?_
  refine z_ci cx hp (fun o' hx => zrunV (n := 1) (As := [.int (ii x2), .int (ii a1)]) (rest := []) cx hp (mX10_failAt F l g B h a0 x2 a1 ra0 rx2 ra1 o' hx) 10 ra0 (by decide) rfl vw_X10_failAt ml_X10_55 (by decide) rfl hl.1 rfl (Nat.le_of_ble_eq_true rfl) dX10_failHere_11) hf (fun r3 h H locs rr3 hp hf => ?_)
  rw [hQ]; exact z_zret cx hp dX10_failHere_14 hf
theorem dX10_takes_0 : decode cX10_takes 0 = .ok (.aload_n 0, 1) := by decide +kernel
theorem dX10_takes_1 : decode cX10_takes 1 = .ok (.getfield 9, 3) := by decide +kernel
theorem dX10_takes_4 : decode cX10_takes 4 = .ok (.aload_n 0, 1) := by decide +kernel
theorem dX10_takes_5 : decode cX10_takes 5 = .ok (.getfield 28, 3) := by decide +kernel
theorem dX10_takes_8 : decode cX10_takes 8 = .ok (.iaload, 1) := by decide +kernel
theorem dX10_takes_9 : decode cX10_takes 9 = .ok (.iload_n 1, 1) := by decide +kernel
theorem dX10_takes_10 : decode cX10_takes 10 = .ok (.if_icmp .eq 5, 3) := by decide +kernel
theorem dX10_takes_13 : decode cX10_takes 13 = .ok (.iconst 0, 1) := by decide +kernel
theorem dX10_takes_14 : decode cX10_takes 14 = .ok (.ireturn, 1) := by decide +kernel
theorem dX10_takes_15 : decode cX10_takes 15 = .ok (.aload_n 0, 1) := by decide +kernel
theorem dX10_takes_16 : decode cX10_takes 16 = .ok (.dup, 1) := by decide +kernel
theorem dX10_takes_17 : decode cX10_takes 17 = .ok (.getfield 28, 3) := by decide +kernel
theorem dX10_takes_20 : decode cX10_takes 20 = .ok (.iconst 1, 1) := by decide +kernel
theorem dX10_takes_21 : decode cX10_takes 21 = .ok (.iadd, 1) := by decide +kernel
theorem dX10_takes_22 : decode cX10_takes 22 = .ok (.putfield 28, 3) := by decide +kernel
theorem dX10_takes_25 : decode cX10_takes 25 = .ok (.iconst 1, 1) := by decide +kernel
theorem dX10_takes_26 : decode cX10_takes 26 = .ok (.ireturn, 1) := by decide +kernel
def fX10_takes (F : Nat) (a0 : Nat) (a1 : Int) (h : HF) : RO :=
  zgf h a0 3 fun x1 =>
  zrd h (a0 + 1) x1 fun x2 =>
  if x2 = a1 then (
    zgf h a0 3 fun x3 =>
    zpf h a0 3 (wr (x3 + 1)) fun h =>
    zrz 1 h
  ) else (
    zrz 0 h
  )
set_option maxHeartbeats 4000000 in
set_option maxRecDepth 100000 in
theorem mX10_takes (F : Nat) (l : Launch) (g : zG) (B : Nat) (h : HF) (a0 : Nat) (a1 : Int) (ra0 : kt a0 = 13) (ra1 : rng a1) : CTi l g B yX10_takes cX10_takes 2 (some .boolean) 0 [.ref (B + a0), .int (ii a1)] h (fX10_takes F a0 a1 h) := by
  refine z_enterI (by decide) rfl (Nat.le_of_ble_eq_true rfl) ?_
  intro p e s m args below meth c ls o Q cx hp hl hf hQ
  have hl : lv_has ls 2 [(0, .ref (B + a0)), (1, .int (ii a1))] := hl
  unfold fX10_takes at hf
  refine lv_aload_n cx.1 cx.2.1 dX10_takes_0 rfl (lv_at hl 0 rfl) ?_
  refine z_gets cx hp (T := TX10) 10 5 (a0 + 1) rfl zin_10 (by decide) (by decide) ra0 rfl fl_X10_9 dX10_takes_1 ?_
  refine lv_aload_n cx.1 cx.2.1 dX10_takes_4 rfl (lv_at hl 0 rfl) ?_
  refine z_geti cx hp (T := TX10) 10 3 rfl zin_10 (by decide) (by decide) ra0 rfl fl_X10_28 dX10_takes_5 hf (fun x1 rx1 hf => ?_)
  refine z_iald cx hp (zs_10_5 a0 (kt_lt ra0 (by decide)) ra0) rx1 dX10_takes_8 hf (fun x2 rx2 hf => ?_)
  refine lv_iload_n cx.1 cx.2.1 dX10_takes_9 rfl (lv_at hl 1 rfl) ?_
  refine z_icmp_eq cx rx2 ra1 (tgt := 15) dX10_takes_10 (by decide) hf (fun _ hf => ?_) (fun _ hf => ?_)
  · refine lv_aload_n cx.1 cx.2.1 dX10_takes_15 rfl (lv_at hl 0 rfl) ?_
    refine lv_dup cx.1 cx.2.1 dX10_takes_16 rfl ?_
    refine z_geti cx hp (T := TX10) 10 3 rfl zin_10 (by decide) (by decide) ra0 rfl fl_X10_28 dX10_takes_17 hf (fun x3 rx3 hf => ?_)
    refine z_iconst cx dX10_takes_20 ?_
    refine z_iadd cx dX10_takes_21 ?_
    refine z_puti cx hp (T := TX10) tyX10 tyX10_ok nmX10 10 3 (rng_wr _) rfl zin_10 (by decide) (by decide) ra0 rfl rfl rfl fl_X10_28 dX10_takes_22 hf (fun h H locs hp hf => ?_)
    refine z_iconst cx dX10_takes_25 ?_
    rw [hQ]; exact z_zret cx hp dX10_takes_26 hf
  · refine z_iconst cx dX10_takes_13 ?_
    rw [hQ]; exact z_zret cx hp dX10_takes_14 hf
theorem dX10_readArguments_0 : decode cX10_readArguments 0 = .ok (.aload_n 0, 1) := by decide +kernel
theorem dX10_readArguments_1 : decode cX10_readArguments 1 = .ok (.iload_n 2, 1) := by decide +kernel
theorem dX10_readArguments_2 : decode cX10_readArguments 2 = .ok (.invokevirtual 123, 3) := by decide +kernel
theorem dX10_readArguments_5 : decode cX10_readArguments 5 = .ok (.ifCond .ne 5, 3) := by decide +kernel
theorem dX10_readArguments_8 : decode cX10_readArguments 8 = .ok (.iconst 0, 1) := by decide +kernel
theorem dX10_readArguments_9 : decode cX10_readArguments 9 = .ok (.ireturn, 1) := by decide +kernel
theorem dX10_readArguments_10 : decode cX10_readArguments 10 = .ok (.aload_n 0, 1) := by decide +kernel
theorem dX10_readArguments_11 : decode cX10_readArguments 11 = .ok (.getfield 94, 3) := by decide +kernel
theorem dX10_readArguments_14 : decode cX10_readArguments 14 = .ok (.getfield 144, 3) := by decide +kernel
theorem dX10_readArguments_17 : decode cX10_readArguments 17 = .ok (.iload_n 1, 1) := by decide +kernel
theorem dX10_readArguments_18 : decode cX10_readArguments 18 = .ok (.iconst 1, 1) := by decide +kernel
theorem dX10_readArguments_19 : decode cX10_readArguments 19 = .ok (.iastore, 1) := by decide +kernel
theorem dX10_readArguments_20 : decode cX10_readArguments 20 = .ok (.aload_n 0, 1) := by decide +kernel
theorem dX10_readArguments_21 : decode cX10_readArguments 21 = .ok (.bipush 44, 2) := by decide +kernel
theorem dX10_readArguments_23 : decode cX10_readArguments 23 = .ok (.invokevirtual 107, 3) := by decide +kernel
theorem dX10_readArguments_26 : decode cX10_readArguments 26 = .ok (.ifCond .eq 39, 3) := by decide +kernel
theorem dX10_readArguments_29 : decode cX10_readArguments 29 = .ok (.aload_n 0, 1) := by decide +kernel
theorem dX10_readArguments_30 : decode cX10_readArguments 30 = .ok (.getfield 94, 3) := by decide +kernel
theorem dX10_readArguments_33 : decode cX10_readArguments 33 = .ok (.getfield 147, 3) := by decide +kernel
theorem dX10_readArguments_36 : decode cX10_readArguments 36 = .ok (.iload_n 1, 1) := by decide +kernel
theorem dX10_readArguments_37 : decode cX10_readArguments 37 = .ok (.aload_n 0, 1) := by decide +kernel
theorem dX10_readArguments_38 : decode cX10_readArguments 38 = .ok (.getfield 94, 3) := by decide +kernel
theorem dX10_readArguments_41 : decode cX10_readArguments 41 = .ok (.getfield 126, 3) := by decide +kernel
theorem dX10_readArguments_44 : decode cX10_readArguments 44 = .ok (.iastore, 1) := by decide +kernel
theorem dX10_readArguments_45 : decode cX10_readArguments 45 = .ok (.aload_n 0, 1) := by decide +kernel
theorem dX10_readArguments_46 : decode cX10_readArguments 46 = .ok (.iload_n 2, 1) := by decide +kernel
theorem dX10_readArguments_47 : decode cX10_readArguments 47 = .ok (.invokevirtual 123, 3) := by decide +kernel
theorem dX10_readArguments_50 : decode cX10_readArguments 50 = .ok (.ifCond .ne 5, 3) := by decide +kernel
theorem dX10_readArguments_53 : decode cX10_readArguments 53 = .ok (.iconst 0, 1) := by decide +kernel
theorem dX10_readArguments_54 : decode cX10_readArguments 54 = .ok (.ireturn, 1) := by decide +kernel
theorem dX10_readArguments_55 : decode cX10_readArguments 55 = .ok (.aload_n 0, 1) := by decide +kernel
theorem dX10_readArguments_56 : decode cX10_readArguments 56 = .ok (.getfield 94, 3) := by decide +kernel
theorem dX10_readArguments_59 : decode cX10_readArguments 59 = .ok (.getfield 144, 3) := by decide +kernel
theorem dX10_readArguments_62 : decode cX10_readArguments 62 = .ok (.iload_n 1, 1) := by decide +kernel
theorem dX10_readArguments_63 : decode cX10_readArguments 63 = .ok (.iconst 2, 1) := by decide +kernel
theorem dX10_readArguments_64 : decode cX10_readArguments 64 = .ok (.iastore, 1) := by decide +kernel
theorem dX10_readArguments_65 : decode cX10_readArguments 65 = .ok (.aload_n 0, 1) := by decide +kernel
theorem dX10_readArguments_66 : decode cX10_readArguments 66 = .ok (.bipush 41, 2) := by decide +kernel
theorem dX10_readArguments_68 : decode cX10_readArguments 68 = .ok (.invokevirtual 107, 3) := by decide +kernel
theorem dX10_readArguments_71 : decode cX10_readArguments 71 = .ok (.ifCond .ne 11, 3) := by decide +kernel
theorem dX10_readArguments_74 : decode cX10_readArguments 74 = .ok (.aload_n 0, 1) := by decide +kernel
theorem dX10_readArguments_75 : decode cX10_readArguments 75 = .ok (.iconst 1, 1) := by decide +kernel
theorem dX10_readArguments_76 : decode cX10_readArguments 76 = .ok (.invokevirtual 111, 3) := by decide +kernel
theorem dX10_readArguments_79 : decode cX10_readArguments 79 = .ok (.ifCond .eq 7, 3) := by decide +kernel
theorem dX10_readArguments_86 : decode cX10_readArguments 86 = .ok (.iconst 0, 1) := by decide +kernel
theorem dX10_readArguments_82 : decode cX10_readArguments 82 = .ok (.iconst 1, 1) := by decide +kernel
theorem dX10_readArguments_83 : decode cX10_readArguments 83 = .ok (.goto 4, 3) := by decide +kernel
theorem dX10_readArguments_87 : decode cX10_readArguments 87 = .ok (.ireturn, 1) := by decide +kernel
def fX10_readArguments (F : Nat) (rf : Nat → Int → HF → RO) (a0 : Nat) (a1 : Int) (a2 : Int) (h : HF) : RO :=
  zbd (rf a0 a2 h) fun r1 h =>
  if r1 = 0 then (
    zrz 0 h
  ) else (
    zgd h a0 4 fun x2 =>
    zwr h (x2 + 6) a1 1 fun h =>
    zbd (fX10_takes F a0 44 h) fun r3 h =>
    zjn (fun  (h : HF) => (
      zbd (fX10_takes F a0 41 h) fun r4 h =>
      zjn (fun (y87_0 : Int) (h : HF) => (
        zrz y87_0 h
      )) fun j87 =>
      zjn (fun  (h : HF) => (
        j87 1 h
      )) fun j82 =>
      if r4 = 0 then (
        zbd (fX10_failHere F a0 1 h) fun r5 h =>
        if r5 = 0 then (
          j87 0 h
        ) else (
          j82  h
        )
      ) else (
        j82  h
      )
    )) fun j65 =>
    if r3 = 0 then (
      j65  h
    ) else (
      zgd h a0 4 fun x6 =>
      zgd h a0 4 fun x7 =>
      zgf h x7 2 fun x8 =>
      zwr h (x6 + 7) a1 x8 fun h =>
      zbd (rf a0 a2 h) fun r9 h =>
      if r9 = 0 then (
        zrz 0 h
      ) else (
        zgd h a0 4 fun x10 =>
        zwr h (x10 + 6) a1 2 fun h =>
        j65  h
      )
    )
  )
set_option maxHeartbeats 4000000 in
set_option maxRecDepth 100000 in
theorem mX10_readArguments (F : Nat) (rf : Nat → Int → HF → RO) (kr : Nat) (l : Launch) (g : zG) (B : Nat) (hrf : ∀ (h : HF) (b0 : Nat) (b1 : Int), kt b0 = 13 → rng b1 → CTi l g B yX10_readTerm cX10_readTerm 4 (some .boolean) kr [.ref (B + b0), .int (ii b1)] h (rf b0 b1 h)) (h : HF) (a0 : Nat) (a1 : Int) (a2 : Int) (ra0 : kt a0 = 13) (ra1 : rng a1) (ra2 : rng a2) : CTi l g B yX10_readArguments cX10_readArguments 3 (some .boolean) (kr + 2) [.ref (B + a0), .int (ii a1), .int (ii a2)] h (fX10_readArguments F rf a0 a1 a2 h) := by
  refine z_enterI (by decide) rfl (Nat.le_of_ble_eq_true rfl) ?_
  intro p e s m args below meth c ls o Q cx hp hl hf hQ
  have hl : lv_has ls 3 [(0, .ref (B + a0)), (1, .int (ii a1)), (2, .int (ii a2))] := hl
  unfold fX10_readArguments at hf
  refine lv_aload_n cx.1 cx.2.1 dX10_readArguments_0 rfl (lv_at hl 0 rfl) ?_
  refine lv_iload_n cx.1 cx.2.1 dX10_readArguments_1 rfl (lv_at hl 2 rfl) ?_
  refine z_ci cx hp (fun o' hx => zrunV (n := (kr + 2)) (As := [.int (ii a2)]) (rest := []) cx hp (hrf h a0 a2 ra0 ra2 o' hx) 10 ra0 (by decide) rfl vw_X10_readTerm ml_X10_123 (by omega) rfl hl.1 rfl (Nat.le_of_ble_eq_true rfl) dX10_readArguments_2) hf (fun r1 h H locs rr1 hp hf => ?_)
  refine z_if_ne cx rr1 (tgt := 10) dX10_readArguments_5 (by decide) hf (fun _ hf => ?_) (fun _ hf => ?_)
  · refine z_iconst cx dX10_readArguments_8 ?_
    rw [hQ]; exact z_zret cx hp dX10_readArguments_9 hf
  · refine lv_aload_n cx.1 cx.2.1 dX10_readArguments_10 rfl (lv_at hl 0 rfl) ?_
    refine z_getd cx hp (T := TX10) 10 4 7 rfl zin_10 (by decide) (by decide) ra0 rfl fl_X10_94 dX10_readArguments_11 hf (fun x2 rx2 hf => ?_)
    refine z_gets cx hp (T := TX4) 4 8 (x2 + 6) rfl zin_4 (by decide) (by decide) rx2 rfl fl_X10_144 dX10_readArguments_14 ?_
    refine lv_iload_n cx.1 cx.2.1 dX10_readArguments_17 rfl (lv_at hl 1 rfl) ?_
    refine z_iconst cx dX10_readArguments_18 ?_
    refine z_iast cx hp (zs_4_8 x2 (kt_lt rx2 (by decide)) rx2) ra1 (by decide) dX10_readArguments_19 hf (fun h H locs hp hf => ?_)
    refine lv_aload_n cx.1 cx.2.1 dX10_readArguments_20 rfl (lv_at hl 0 rfl) ?_
    refine z_bipush cx (by decide) dX10_readArguments_21 ?_
    refine z_ci cx hp (fun o' hx => zrunV (n := (kr + 2)) (As := [.int (ii 44)]) (rest := []) cx hp (mX10_takes F l g B h a0 44 ra0 (by decide) o' hx) 10 ra0 (by decide) rfl vw_X10_takes ml_X10_107 (by omega) rfl hl.1 rfl (Nat.le_of_ble_eq_true rfl) dX10_readArguments_23) hf (fun r3 h H locs rr3 hp hf => ?_)
    refine z_jn hf (fun j => ∀  (h : HF) (H : Heap) (locs : List Loc) (ls : Array Slot), Hp g B s h H locs → lv_has ls 3 [(0, .ref (B + a0))] → j  h = some o → W p l e (rmn (kr + 2)) s m args below meth c H locs 0 0 Q (F0 m 65 ls [])) ?_ (fun j65 hj65 hf => ?_)
    · intro  h H locs ls  hp hl hf
      refine lv_aload_n cx.1 cx.2.1 dX10_readArguments_65 rfl (lv_at hl 0 rfl) ?_
      refine z_bipush cx (by decide) dX10_readArguments_66 ?_
      refine z_ci cx hp (fun o' hx => zrunV (n := (kr + 2)) (As := [.int (ii 41)]) (rest := []) cx hp (mX10_takes F l g B h a0 41 ra0 (by decide) o' hx) 10 ra0 (by decide) rfl vw_X10_takes ml_X10_107 (by omega) rfl hl.1 rfl (Nat.le_of_ble_eq_true rfl) dX10_readArguments_68) hf (fun r4 h H locs rr4 hp hf => ?_)
      refine z_jn hf (fun j => ∀ (y87_0 : Int) (h : HF) (H : Heap) (locs : List Loc) (ls : Array Slot), rng y87_0 → Hp g B s h H locs → lv_has ls 3 [] → j y87_0 h = some o → W p l e (rmn (kr + 2)) s m args below meth c H locs 0 0 Q (F0 m 87 ls [.int (ii y87_0)])) ?_ (fun j87 hj87 hf => ?_)
      · intro y87_0 h H locs ls ry87_0 hp hl hf
        rw [hQ]; exact z_zret cx hp dX10_readArguments_87 hf
      refine z_jn hf (fun j => ∀  (h : HF) (H : Heap) (locs : List Loc) (ls : Array Slot), Hp g B s h H locs → lv_has ls 3 [] → j  h = some o → W p l e (rmn (kr + 2)) s m args below meth c H locs 0 0 Q (F0 m 82 ls [])) ?_ (fun j82 hj82 hf => ?_)
      · intro  h H locs ls  hp hl hf
        refine z_iconst cx dX10_readArguments_82 ?_
        refine lv_goto (tgt := 87) cx.1 cx.2.1 dX10_readArguments_83 (by decide) ?_
        exact hj87 1 h _ _ ls (by decide) hp (lv_sub hl [] rfl) hf
      refine z_if_ne cx rr4 (tgt := 82) dX10_readArguments_71 (by decide) hf (fun _ hf => ?_) (fun _ hf => ?_)
      · refine lv_aload_n cx.1 cx.2.1 dX10_readArguments_74 rfl (lv_at hl 0 rfl) ?_
        refine z_iconst cx dX10_readArguments_75 ?_
        refine z_ci cx hp (fun o' hx => zrunV (n := (kr + 2)) (As := [.int (ii 1)]) (rest := []) cx hp (mX10_failHere F l g B h a0 1 ra0 (by decide) o' hx) 10 ra0 (by decide) rfl vw_X10_failHere ml_X10_111 (by omega) rfl hl.1 rfl (Nat.le_of_ble_eq_true rfl) dX10_readArguments_76) hf (fun r5 h H locs rr5 hp hf => ?_)
        refine z_if_eq cx rr5 (tgt := 86) dX10_readArguments_79 (by decide) hf (fun _ hf => ?_) (fun _ hf => ?_)
        · refine z_iconst cx dX10_readArguments_86 ?_
          exact hj87 0 h _ _ ls (by decide) hp (lv_sub hl [] rfl) hf
        · exact hj82  h _ _ ls  hp (lv_sub hl [] rfl) hf
      · exact hj82  h _ _ ls  hp (lv_sub hl [] rfl) hf
    refine z_if_eq cx rr3 (tgt := 65) dX10_readArguments_26 (by decide) hf (fun _ hf => ?_) (fun _ hf => ?_)
    · exact hj65  h _ _ ls  hp (lv_sub hl [0] rfl) hf
    · refine lv_aload_n cx.1 cx.2.1 dX10_readArguments_29 rfl (lv_at hl 0 rfl) ?_
      refine z_getd cx hp (T := TX10) 10 4 7 rfl zin_10 (by decide) (by decide) ra0 rfl fl_X10_94 dX10_readArguments_30 hf (fun x6 rx6 hf => ?_)
      refine z_gets cx hp (T := TX4) 4 9 (x6 + 7) rfl zin_4 (by decide) (by decide) rx6 rfl fl_X10_147 dX10_readArguments_33 ?_
      refine lv_iload_n cx.1 cx.2.1 dX10_readArguments_36 rfl (lv_at hl 1 rfl) ?_
      refine lv_aload_n cx.1 cx.2.1 dX10_readArguments_37 rfl (lv_at hl 0 rfl) ?_
      refine z_getd cx hp (T := TX10) 10 4 7 rfl zin_10 (by decide) (by decide) ra0 rfl fl_X10_94 dX10_readArguments_38 hf (fun x7 rx7 hf => ?_)
      refine z_geti cx hp (T := TX4) 4 2 rfl zin_4 (by decide) (by decide) rx7 rfl fl_X10_126 dX10_readArguments_41 hf (fun x8 rx8 hf => ?_)
      refine z_iast cx hp (zs_4_9 x6 (kt_lt rx6 (by decide)) rx6) ra1 rx8 dX10_readArguments_44 hf (fun h H locs hp hf => ?_)
      refine lv_aload_n cx.1 cx.2.1 dX10_readArguments_45 rfl (lv_at hl 0 rfl) ?_
      refine lv_iload_n cx.1 cx.2.1 dX10_readArguments_46 rfl (lv_at hl 2 rfl) ?_
      refine z_ci cx hp (fun o' hx => zrunV (n := (kr + 2)) (As := [.int (ii a2)]) (rest := []) cx hp (hrf h a0 a2 ra0 ra2 o' hx) 10 ra0 (by decide) rfl vw_X10_readTerm ml_X10_123 (by omega) rfl hl.1 rfl (Nat.le_of_ble_eq_true rfl) dX10_readArguments_47) hf (fun r9 h H locs rr9 hp hf => ?_)
      refine z_if_ne cx rr9 (tgt := 55) dX10_readArguments_50 (by decide) hf (fun _ hf => ?_) (fun _ hf => ?_)
      · refine z_iconst cx dX10_readArguments_53 ?_
        rw [hQ]; exact z_zret cx hp dX10_readArguments_54 hf
      · refine lv_aload_n cx.1 cx.2.1 dX10_readArguments_55 rfl (lv_at hl 0 rfl) ?_
        refine z_getd cx hp (T := TX10) 10 4 7 rfl zin_10 (by decide) (by decide) ra0 rfl fl_X10_94 dX10_readArguments_56 hf (fun x10 rx10 hf => ?_)
        refine z_gets cx hp (T := TX4) 4 8 (x10 + 6) rfl zin_4 (by decide) (by decide) rx10 rfl fl_X10_144 dX10_readArguments_59 ?_
        refine lv_iload_n cx.1 cx.2.1 dX10_readArguments_62 rfl (lv_at hl 1 rfl) ?_
        refine z_iconst cx dX10_readArguments_63 ?_
        refine z_iast cx hp (zs_4_8 x10 (kt_lt rx10 (by decide)) rx10) ra1 (by decide) dX10_readArguments_64 hf (fun h H locs hp hf => ?_)
        exact hj65  h _ _ ls  hp (lv_sub hl [0] rfl) hf
theorem dX10_termSign_0 : decode cX10_termSign 0 = .ok (.iload_n 0, 1) := by decide +kernel
theorem dX10_termSign_1 : decode cX10_termSign 1 = .ok (.bipush 120, 2) := by decide +kernel
theorem dX10_termSign_3 : decode cX10_termSign 3 = .ok (.if_icmp .lt 14, 3) := by decide +kernel
theorem dX10_termSign_6 : decode cX10_termSign 6 = .ok (.iload_n 0, 1) := by decide +kernel
theorem dX10_termSign_7 : decode cX10_termSign 7 = .ok (.bipush 122, 2) := by decide +kernel
theorem dX10_termSign_9 : decode cX10_termSign 9 = .ok (.if_icmp .gt 8, 3) := by decide +kernel
theorem dX10_termSign_12 : decode cX10_termSign 12 = .ok (.iload_n 0, 1) := by decide +kernel
theorem dX10_termSign_13 : decode cX10_termSign 13 = .ok (.bipush 120, 2) := by decide +kernel
theorem dX10_termSign_15 : decode cX10_termSign 15 = .ok (.isub, 1) := by decide +kernel
theorem dX10_termSign_16 : decode cX10_termSign 16 = .ok (.ireturn, 1) := by decide +kernel
theorem dX10_termSign_17 : decode cX10_termSign 17 = .ok (.iload_n 0, 1) := by decide +kernel
theorem dX10_termSign_18 : decode cX10_termSign 18 = .ok (.bipush 97, 2) := by decide +kernel
theorem dX10_termSign_20 : decode cX10_termSign 20 = .ok (.if_icmp .lt 18, 3) := by decide +kernel
theorem dX10_termSign_23 : decode cX10_termSign 23 = .ok (.iload_n 0, 1) := by decide +kernel
theorem dX10_termSign_24 : decode cX10_termSign 24 = .ok (.bipush 100, 2) := by decide +kernel
theorem dX10_termSign_26 : decode cX10_termSign 26 = .ok (.if_icmp .gt 12, 3) := by decide +kernel
theorem dX10_termSign_29 : decode cX10_termSign 29 = .ok (.iload_n 0, 1) := by decide +kernel
theorem dX10_termSign_30 : decode cX10_termSign 30 = .ok (.bipush 97, 2) := by decide +kernel
theorem dX10_termSign_32 : decode cX10_termSign 32 = .ok (.isub, 1) := by decide +kernel
theorem dX10_termSign_33 : decode cX10_termSign 33 = .ok (.iconst 3, 1) := by decide +kernel
theorem dX10_termSign_34 : decode cX10_termSign 34 = .ok (.iadd, 1) := by decide +kernel
theorem dX10_termSign_35 : decode cX10_termSign 35 = .ok (.goto 4, 3) := by decide +kernel
theorem dX10_termSign_38 : decode cX10_termSign 38 = .ok (.iconst (-1), 1) := by decide +kernel
theorem dX10_termSign_39 : decode cX10_termSign 39 = .ok (.ireturn, 1) := by decide +kernel
def fX10_termSign (F : Nat) (a0 : Int) (h : HF) : RO :=
  zjn (fun  (h : HF) => (
    zjn (fun (y39_0 : Int) (h : HF) => (
      some (y39_0, h)
    )) fun j39 =>
    zjn (fun  (h : HF) => (
      j39 (-1) h
    )) fun j38 =>
    if a0 < 97 then (
      j38  h
    ) else (
      if 100 < a0 then (
        j38  h
      ) else (
        j39 (wr ((wr (a0 - 97)) + 3)) h
      )
    )
  )) fun j17 =>
  if a0 < 120 then (
    j17  h
  ) else (
    if 122 < a0 then (
      j17  h
    ) else (
      some (wr (a0 - 120), h)
    )
  )
set_option maxHeartbeats 4000000 in
set_option maxRecDepth 100000 in
theorem mX10_termSign (F : Nat) (l : Launch) (g : zG) (B : Nat) (h : HF) (a0 : Int) (ra0 : rng a0) : CTi l g B yX10_termSign cX10_termSign 1 (some .int) 0 [.int (ii a0)] h (fX10_termSign F a0 h) := by
  refine z_enterI (by decide) rfl (Nat.le_of_ble_eq_true rfl) ?_
  intro p e s m args below meth c ls o Q cx hp hl hf hQ
  have hl : lv_has ls 1 [(0, .int (ii a0))] := hl
  unfold fX10_termSign at hf
  refine lv_iload_n cx.1 cx.2.1 dX10_termSign_0 rfl (lv_at hl 0 rfl) ?_
  refine z_bipush cx (by decide) dX10_termSign_1 ?_
  refine z_jn hf (fun j => ∀  (h : HF) (H : Heap) (locs : List Loc) (ls : Array Slot), Hp g B s h H locs → lv_has ls 1 [(0, .int (ii a0))] → j  h = some o → W p l e (rmn 0) s m args below meth c H locs 0 0 Q (F0 m 17 ls [])) ?_ (fun j17 hj17 hf => ?_)
  · intro  h H locs ls  hp hl hf
    refine lv_iload_n cx.1 cx.2.1 dX10_termSign_17 rfl (lv_at hl 0 rfl) ?_
    refine z_bipush cx (by decide) dX10_termSign_18 ?_
    refine z_jn hf (fun j => ∀ (y39_0 : Int) (h : HF) (H : Heap) (locs : List Loc) (ls : Array Slot), rng y39_0 → Hp g B s h H locs → lv_has ls 1 [] → j y39_0 h = some o → W p l e (rmn 0) s m args below meth c H locs 0 0 Q (F0 m 39 ls [.int (ii y39_0)])) ?_ (fun j39 hj39 hf => ?_)
    · intro y39_0 h H locs ls ry39_0 hp hl hf
      rw [hQ]; exact z_iret cx hp ry39_0 dX10_termSign_39 hf
    refine z_jn hf (fun j => ∀  (h : HF) (H : Heap) (locs : List Loc) (ls : Array Slot), Hp g B s h H locs → lv_has ls 1 [] → j  h = some o → W p l e (rmn 0) s m args below meth c H locs 0 0 Q (F0 m 38 ls [])) ?_ (fun j38 hj38 hf => ?_)
    · intro  h H locs ls  hp hl hf
      refine z_iconst cx dX10_termSign_38 ?_
      exact hj39 (-1) h _ _ ls (by decide) hp (lv_sub hl [] rfl) hf
    refine z_icmp_lt cx ra0 (by decide) (tgt := 38) dX10_termSign_20 (by decide) hf (fun _ hf => ?_) (fun _ hf => ?_)
    · exact hj38  h _ _ ls  hp (lv_sub hl [] rfl) hf
    · refine lv_iload_n cx.1 cx.2.1 dX10_termSign_23 rfl (lv_at hl 0 rfl) ?_
      refine z_bipush cx (by decide) dX10_termSign_24 ?_
      refine z_icmp_gt cx ra0 (by decide) (tgt := 38) dX10_termSign_26 (by decide) hf (fun _ hf => ?_) (fun _ hf => ?_)
      · exact hj38  h _ _ ls  hp (lv_sub hl [] rfl) hf
      · refine lv_iload_n cx.1 cx.2.1 dX10_termSign_29 rfl (lv_at hl 0 rfl) ?_
        refine z_bipush cx (by decide) dX10_termSign_30 ?_
        refine z_isub cx dX10_termSign_32 ?_
        refine z_iconst cx dX10_termSign_33 ?_
        refine z_iadd cx dX10_termSign_34 ?_
        refine lv_goto (tgt := 39) cx.1 cx.2.1 dX10_termSign_35 (by decide) ?_
        exact hj39 (wr ((wr (a0 - 97)) + 3)) h _ _ ls (rng_wr _) hp (lv_sub hl [] rfl) hf
  refine z_icmp_lt cx ra0 (by decide) (tgt := 17) dX10_termSign_3 (by decide) hf (fun _ hf => ?_) (fun _ hf => ?_)
  · exact hj17  h _ _ ls  hp (lv_sub hl [0] rfl) hf
  · refine lv_iload_n cx.1 cx.2.1 dX10_termSign_6 rfl (lv_at hl 0 rfl) ?_
    refine z_bipush cx (by decide) dX10_termSign_7 ?_
    refine z_icmp_gt cx ra0 (by decide) (tgt := 17) dX10_termSign_9 (by decide) hf (fun _ hf => ?_) (fun _ hf => ?_)
    · exact hj17  h _ _ ls  hp (lv_sub hl [0] rfl) hf
    · refine lv_iload_n cx.1 cx.2.1 dX10_termSign_12 rfl (lv_at hl 0 rfl) ?_
      refine z_bipush cx (by decide) dX10_termSign_13 ?_
      refine z_isub cx dX10_termSign_15 ?_
      rw [hQ]; exact z_iret cx hp (rng_wr _) dX10_termSign_16 hf
theorem dX11_feed_0 : decode cX11_feed 0 = .ok (.aload_n 0, 1) := by decide +kernel
theorem dX11_feed_1 : decode cX11_feed 1 = .ok (.getfield 14, 3) := by decide +kernel
theorem dX11_feed_4 : decode cX11_feed 4 = .ok (.bipush 20, 2) := by decide +kernel
theorem dX11_feed_6 : decode cX11_feed 6 = .ok (.invokevirtual 108, 3) := by decide +kernel
theorem dX11_feed_9 : decode cX11_feed 9 = .ok (.ifCond .ne 6, 3) := by decide +kernel
theorem dX11_feed_12 : decode cX11_feed 12 = .ok (.bipush (-5), 2) := by decide +kernel
theorem dX11_feed_14 : decode cX11_feed 14 = .ok (.ireturn, 1) := by decide +kernel
theorem dX11_feed_15 : decode cX11_feed 15 = .ok (.aload_n 0, 1) := by decide +kernel
theorem dX11_feed_16 : decode cX11_feed 16 = .ok (.getfield 14, 3) := by decide +kernel
theorem dX11_feed_19 : decode cX11_feed 19 = .ok (.iload_n 1, 1) := by decide +kernel
theorem dX11_feed_20 : decode cX11_feed 20 = .ok (.invokevirtual 112, 3) := by decide +kernel
theorem dX11_feed_23 : decode cX11_feed 23 = .ok (.aload_n 0, 1) := by decide +kernel
theorem dX11_feed_24 : decode cX11_feed 24 = .ok (.getfield 14, 3) := by decide +kernel
theorem dX11_feed_27 : decode cX11_feed 27 = .ok (.iload_n 2, 1) := by decide +kernel
theorem dX11_feed_28 : decode cX11_feed 28 = .ok (.invokevirtual 112, 3) := by decide +kernel
theorem dX11_feed_31 : decode cX11_feed 31 = .ok (.aload_n 0, 1) := by decide +kernel
theorem dX11_feed_32 : decode cX11_feed 32 = .ok (.getfield 14, 3) := by decide +kernel
theorem dX11_feed_35 : decode cX11_feed 35 = .ok (.iload_n 3, 1) := by decide +kernel
theorem dX11_feed_36 : decode cX11_feed 36 = .ok (.invokevirtual 112, 3) := by decide +kernel
theorem dX11_feed_39 : decode cX11_feed 39 = .ok (.aload_n 0, 1) := by decide +kernel
theorem dX11_feed_40 : decode cX11_feed 40 = .ok (.getfield 14, 3) := by decide +kernel
theorem dX11_feed_43 : decode cX11_feed 43 = .ok (.iload 4, 2) := by decide +kernel
theorem dX11_feed_45 : decode cX11_feed 45 = .ok (.invokevirtual 112, 3) := by decide +kernel
theorem dX11_feed_48 : decode cX11_feed 48 = .ok (.aload_n 0, 1) := by decide +kernel
theorem dX11_feed_49 : decode cX11_feed 49 = .ok (.getfield 14, 3) := by decide +kernel
theorem dX11_feed_52 : decode cX11_feed 52 = .ok (.iload 5, 2) := by decide +kernel
theorem dX11_feed_54 : decode cX11_feed 54 = .ok (.invokevirtual 112, 3) := by decide +kernel
theorem dX11_feed_57 : decode cX11_feed 57 = .ok (.aload_n 0, 1) := by decide +kernel
theorem dX11_feed_58 : decode cX11_feed 58 = .ok (.getfield 14, 3) := by decide +kernel
theorem dX11_feed_61 : decode cX11_feed 61 = .ok (.getfield 115, 3) := by decide +kernel
theorem dX11_feed_64 : decode cX11_feed 64 = .ok (.ireturn, 1) := by decide +kernel
def fX11_feed (F : Nat) (a0 : Nat) (a1 : Int) (a2 : Int) (a3 : Int) (a4 : Int) (a5 : Int) (h : HF) : RO :=
  zbd (fX1_hasRoom F (a0 + 1) 20 h) fun r1 h =>
  if r1 = 0 then (
    some ((-5), h)
  ) else (
    zbd (fX1_addNumber F (a0 + 1) a1 h) fun _ h =>
    zbd (fX1_addNumber F (a0 + 1) a2 h) fun _ h =>
    zbd (fX1_addNumber F (a0 + 1) a3 h) fun _ h =>
    zbd (fX1_addNumber F (a0 + 1) a4 h) fun _ h =>
    zbd (fX1_addNumber F (a0 + 1) a5 h) fun _ h =>
    zgf h (a0 + 1) 1 fun x7 =>
    some (x7, h)
  )
set_option maxHeartbeats 4000000 in
set_option maxRecDepth 100000 in
theorem mX11_feed (F : Nat) (l : Launch) (g : zG) (B : Nat) (h : HF) (a0 : Nat) (a1 : Int) (a2 : Int) (a3 : Int) (a4 : Int) (a5 : Int) (ra0 : kt a0 = 14) (ra1 : rng a1) (ra2 : rng a2) (ra3 : rng a3) (ra4 : rng a4) (ra5 : rng a5) : CTi l g B yX11_feed cX11_feed 6 (some .int) 3 [.ref (B + a0), .int (ii a1), .int (ii a2), .int (ii a3), .int (ii a4), .int (ii a5)] h (fX11_feed F a0 a1 a2 a3 a4 a5 h) := by
  refine z_enterI (by decide) rfl (Nat.le_of_ble_eq_true rfl) ?_
  intro p e s m args below meth c ls o Q cx hp hl hf hQ
  have hl : lv_has ls 6 [(0, .ref (B + a0)), (1, .int (ii a1)), (2, .int (ii a2)), (3, .int (ii a3)), (4, .int (ii a4)), (5, .int (ii a5))] := hl
  unfold fX11_feed at hf
  refine lv_aload_n cx.1 cx.2.1 dX11_feed_0 rfl (lv_at hl 0 rfl) ?_
  refine z_gets cx hp (T := TX11) 11 0 (a0 + 1) rfl zin_11 (by decide) (by decide) ra0 rfl fl_X11_14 dX11_feed_1 ?_
  refine z_bipush cx (by decide) dX11_feed_4 ?_
  refine z_ci cx hp (fun o' hx => zrunV (n := 3) (As := [.int (ii 20)]) (rest := []) cx hp (mX1_hasRoom F l g B h (a0 + 1) 20 (zs_11_0 a0 (kt_lt ra0 (by decide)) ra0) (by decide) o' hx) 1 (zs_11_0 a0 (kt_lt ra0 (by decide)) ra0) (by decide) rfl vw_X1_hasRoom ml_X11_108 (by decide) rfl hl.1 rfl (Nat.le_of_ble_eq_true rfl) dX11_feed_6) hf (fun r1 h H locs rr1 hp hf => ?_)
  refine z_if_ne cx rr1 (tgt := 15) dX11_feed_9 (by decide) hf (fun _ hf => ?_) (fun _ hf => ?_)
  · refine z_bipush cx (by decide) dX11_feed_12 ?_
    rw [hQ]; exact z_iret cx hp (by decide) dX11_feed_14 hf
  · refine lv_aload_n cx.1 cx.2.1 dX11_feed_15 rfl (lv_at hl 0 rfl) ?_
    refine z_gets cx hp (T := TX11) 11 0 (a0 + 1) rfl zin_11 (by decide) (by decide) ra0 rfl fl_X11_14 dX11_feed_16 ?_
    refine lv_iload_n cx.1 cx.2.1 dX11_feed_19 rfl (lv_at hl 1 rfl) ?_
    refine z_cv cx hp (fun o' hx => zrunV (n := 3) (As := [.int (ii a1)]) (rest := []) cx hp (mX1_addNumber F l g B h (a0 + 1) a1 (zs_11_0 a0 (kt_lt ra0 (by decide)) ra0) ra1 o' hx) 1 (zs_11_0 a0 (kt_lt ra0 (by decide)) ra0) (by decide) rfl vw_X1_addNumber ml_X11_112 (by decide) rfl hl.1 rfl (Nat.le_of_ble_eq_true rfl) dX11_feed_20) hf (fun _ h H locs hp hf => ?_)
    refine lv_aload_n cx.1 cx.2.1 dX11_feed_23 rfl (lv_at hl 0 rfl) ?_
    refine z_gets cx hp (T := TX11) 11 0 (a0 + 1) rfl zin_11 (by decide) (by decide) ra0 rfl fl_X11_14 dX11_feed_24 ?_
    refine lv_iload_n cx.1 cx.2.1 dX11_feed_27 rfl (lv_at hl 2 rfl) ?_
    refine z_cv cx hp (fun o' hx => zrunV (n := 3) (As := [.int (ii a2)]) (rest := []) cx hp (mX1_addNumber F l g B h (a0 + 1) a2 (zs_11_0 a0 (kt_lt ra0 (by decide)) ra0) ra2 o' hx) 1 (zs_11_0 a0 (kt_lt ra0 (by decide)) ra0) (by decide) rfl vw_X1_addNumber ml_X11_112 (by decide) rfl hl.1 rfl (Nat.le_of_ble_eq_true rfl) dX11_feed_28) hf (fun _ h H locs hp hf => ?_)
    refine lv_aload_n cx.1 cx.2.1 dX11_feed_31 rfl (lv_at hl 0 rfl) ?_
    refine z_gets cx hp (T := TX11) 11 0 (a0 + 1) rfl zin_11 (by decide) (by decide) ra0 rfl fl_X11_14 dX11_feed_32 ?_
    refine lv_iload_n cx.1 cx.2.1 dX11_feed_35 rfl (lv_at hl 3 rfl) ?_
    refine z_cv cx hp (fun o' hx => zrunV (n := 3) (As := [.int (ii a3)]) (rest := []) cx hp (mX1_addNumber F l g B h (a0 + 1) a3 (zs_11_0 a0 (kt_lt ra0 (by decide)) ra0) ra3 o' hx) 1 (zs_11_0 a0 (kt_lt ra0 (by decide)) ra0) (by decide) rfl vw_X1_addNumber ml_X11_112 (by decide) rfl hl.1 rfl (Nat.le_of_ble_eq_true rfl) dX11_feed_36) hf (fun _ h H locs hp hf => ?_)
    refine lv_aload_n cx.1 cx.2.1 dX11_feed_39 rfl (lv_at hl 0 rfl) ?_
    refine z_gets cx hp (T := TX11) 11 0 (a0 + 1) rfl zin_11 (by decide) (by decide) ra0 rfl fl_X11_14 dX11_feed_40 ?_
    refine lv_iload cx.1 cx.2.1 dX11_feed_43 (lv_at hl 4 rfl) ?_
    refine z_cv cx hp (fun o' hx => zrunV (n := 3) (As := [.int (ii a4)]) (rest := []) cx hp (mX1_addNumber F l g B h (a0 + 1) a4 (zs_11_0 a0 (kt_lt ra0 (by decide)) ra0) ra4 o' hx) 1 (zs_11_0 a0 (kt_lt ra0 (by decide)) ra0) (by decide) rfl vw_X1_addNumber ml_X11_112 (by decide) rfl hl.1 rfl (Nat.le_of_ble_eq_true rfl) dX11_feed_45) hf (fun _ h H locs hp hf => ?_)
    refine lv_aload_n cx.1 cx.2.1 dX11_feed_48 rfl (lv_at hl 0 rfl) ?_
    refine z_gets cx hp (T := TX11) 11 0 (a0 + 1) rfl zin_11 (by decide) (by decide) ra0 rfl fl_X11_14 dX11_feed_49 ?_
    refine lv_iload cx.1 cx.2.1 dX11_feed_52 (lv_at hl 5 rfl) ?_
    refine z_cv cx hp (fun o' hx => zrunV (n := 3) (As := [.int (ii a5)]) (rest := []) cx hp (mX1_addNumber F l g B h (a0 + 1) a5 (zs_11_0 a0 (kt_lt ra0 (by decide)) ra0) ra5 o' hx) 1 (zs_11_0 a0 (kt_lt ra0 (by decide)) ra0) (by decide) rfl vw_X1_addNumber ml_X11_112 (by decide) rfl hl.1 rfl (Nat.le_of_ble_eq_true rfl) dX11_feed_54) hf (fun _ h H locs hp hf => ?_)
    refine lv_aload_n cx.1 cx.2.1 dX11_feed_57 rfl (lv_at hl 0 rfl) ?_
    refine z_gets cx hp (T := TX11) 11 0 (a0 + 1) rfl zin_11 (by decide) (by decide) ra0 rfl fl_X11_14 dX11_feed_58 ?_
    refine z_geti cx hp (T := TX1) 1 1 rfl zin_1 (by decide) (by decide) (zs_11_0 a0 (kt_lt ra0 (by decide)) ra0) rfl fl_X11_115 dX11_feed_61 hf (fun x7 rx7 hf => ?_)
    rw [hQ]; exact z_iret cx hp rx7 dX11_feed_64 hf
theorem dX11_trim_0 : decode cX11_trim 0 = .ok (.iload_n 1, 1) := by decide +kernel
theorem dX11_trim_1 : decode cX11_trim 1 = .ok (.ifCond .lt 14, 3) := by decide +kernel
theorem dX11_trim_4 : decode cX11_trim 4 = .ok (.iload_n 1, 1) := by decide +kernel
theorem dX11_trim_5 : decode cX11_trim 5 = .ok (.aload_n 0, 1) := by decide +kernel
theorem dX11_trim_6 : decode cX11_trim 6 = .ok (.getfield 14, 3) := by decide +kernel
theorem dX11_trim_9 : decode cX11_trim 9 = .ok (.getfield 115, 3) := by decide +kernel
theorem dX11_trim_12 : decode cX11_trim 12 = .ok (.if_icmp .le 6, 3) := by decide +kernel
theorem dX11_trim_18 : decode cX11_trim 18 = .ok (.aload_n 0, 1) := by decide +kernel
theorem dX11_trim_19 : decode cX11_trim 19 = .ok (.getfield 14, 3) := by decide +kernel
theorem dX11_trim_22 : decode cX11_trim 22 = .ok (.iload_n 1, 1) := by decide +kernel
theorem dX11_trim_23 : decode cX11_trim 23 = .ok (.putfield 115, 3) := by decide +kernel
theorem dX11_trim_26 : decode cX11_trim 26 = .ok (.iload_n 1, 1) := by decide +kernel
theorem dX11_trim_27 : decode cX11_trim 27 = .ok (.ireturn, 1) := by decide +kernel
theorem dX11_trim_15 : decode cX11_trim 15 = .ok (.bipush (-3), 2) := by decide +kernel
theorem dX11_trim_17 : decode cX11_trim 17 = .ok (.ireturn, 1) := by decide +kernel
def fX11_trim (F : Nat) (a0 : Nat) (a1 : Int) (h : HF) : RO :=
  zjn (fun  (h : HF) => (
    some ((-3), h)
  )) fun j15 =>
  if a1 < 0 then (
    j15  h
  ) else (
    zgf h (a0 + 1) 1 fun x1 =>
    if x1 < a1 then (
      j15  h
    ) else (
      zpf h (a0 + 1) 1 a1 fun h =>
      some (a1, h)
    )
  )
set_option maxHeartbeats 4000000 in
set_option maxRecDepth 100000 in
theorem mX11_trim (F : Nat) (l : Launch) (g : zG) (B : Nat) (h : HF) (a0 : Nat) (a1 : Int) (ra0 : kt a0 = 14) (ra1 : rng a1) : CTi l g B yX11_trim cX11_trim 2 (some .int) 0 [.ref (B + a0), .int (ii a1)] h (fX11_trim F a0 a1 h) := by
  refine z_enterI (by decide) rfl (Nat.le_of_ble_eq_true rfl) ?_
  intro p e s m args below meth c ls o Q cx hp hl hf hQ
  have hl : lv_has ls 2 [(0, .ref (B + a0)), (1, .int (ii a1))] := hl
  unfold fX11_trim at hf
  refine lv_iload_n cx.1 cx.2.1 dX11_trim_0 rfl (lv_at hl 1 rfl) ?_
  refine z_jn hf (fun j => ∀  (h : HF) (H : Heap) (locs : List Loc) (ls : Array Slot), Hp g B s h H locs → lv_has ls 2 [] → j  h = some o → W p l e (rmn 0) s m args below meth c H locs 0 0 Q (F0 m 15 ls [])) ?_ (fun j15 hj15 hf => ?_)
  · intro  h H locs ls  hp hl hf
    refine z_bipush cx (by decide) dX11_trim_15 ?_
    rw [hQ]; exact z_iret cx hp (by decide) dX11_trim_17 hf
  refine z_if_lt cx ra1 (tgt := 15) dX11_trim_1 (by decide) hf (fun _ hf => ?_) (fun _ hf => ?_)
  · exact hj15  h _ _ ls  hp (lv_sub hl [] rfl) hf
  · refine lv_iload_n cx.1 cx.2.1 dX11_trim_4 rfl (lv_at hl 1 rfl) ?_
    refine lv_aload_n cx.1 cx.2.1 dX11_trim_5 rfl (lv_at hl 0 rfl) ?_
    refine z_gets cx hp (T := TX11) 11 0 (a0 + 1) rfl zin_11 (by decide) (by decide) ra0 rfl fl_X11_14 dX11_trim_6 ?_
    refine z_geti cx hp (T := TX1) 1 1 rfl zin_1 (by decide) (by decide) (zs_11_0 a0 (kt_lt ra0 (by decide)) ra0) rfl fl_X11_115 dX11_trim_9 hf (fun x1 rx1 hf => ?_)
    refine z_icmp_le cx ra1 rx1 (tgt := 18) dX11_trim_12 (by decide) hf (fun _ hf => ?_) (fun _ hf => ?_)
    · exact hj15  h _ _ ls  hp (lv_sub hl [] rfl) hf
    · refine lv_aload_n cx.1 cx.2.1 dX11_trim_18 rfl (lv_at hl 0 rfl) ?_
      refine z_gets cx hp (T := TX11) 11 0 (a0 + 1) rfl zin_11 (by decide) (by decide) ra0 rfl fl_X11_14 dX11_trim_19 ?_
      refine lv_iload_n cx.1 cx.2.1 dX11_trim_22 rfl (lv_at hl 1 rfl) ?_
      refine z_puti cx hp (T := TX1) tyX1 tyX1_ok nmX1 1 1 ra1 rfl zin_1 (by decide) (by decide) (zs_11_0 a0 (kt_lt ra0 (by decide)) ra0) rfl rfl rfl fl_X11_115 dX11_trim_23 hf (fun h H locs hp hf => ?_)
      refine lv_iload_n cx.1 cx.2.1 dX11_trim_26 rfl (lv_at hl 1 rfl) ?_
      rw [hQ]; exact z_iret cx hp ra1 dX11_trim_27 hf
theorem dX11_out_0 : decode cX11_out 0 = .ok (.aload_n 0, 1) := by decide +kernel
theorem dX11_out_1 : decode cX11_out 1 = .ok (.getfield 18, 3) := by decide +kernel
theorem dX11_out_4 : decode cX11_out 4 = .ok (.iload_n 1, 1) := by decide +kernel
theorem dX11_out_5 : decode cX11_out 5 = .ok (.invokevirtual 119, 3) := by decide +kernel
theorem dX11_out_8 : decode cX11_out 8 = .ok (.ireturn, 1) := by decide +kernel
def fX11_out (F : Nat) (a0 : Nat) (a1 : Int) (h : HF) : RO :=
  zbd (fX1_byteAt F (a0 + 3) a1 h) fun r1 h =>
  some (r1, h)
set_option maxHeartbeats 4000000 in
set_option maxRecDepth 100000 in
theorem mX11_out (F : Nat) (l : Launch) (g : zG) (B : Nat) (h : HF) (a0 : Nat) (a1 : Int) (ra0 : kt a0 = 14) (ra1 : rng a1) : CTi l g B yX11_out cX11_out 2 (some .int) 1 [.ref (B + a0), .int (ii a1)] h (fX11_out F a0 a1 h) := by
  refine z_enterI (by decide) rfl (Nat.le_of_ble_eq_true rfl) ?_
  intro p e s m args below meth c ls o Q cx hp hl hf hQ
  have hl : lv_has ls 2 [(0, .ref (B + a0)), (1, .int (ii a1))] := hl
  unfold fX11_out at hf
  refine lv_aload_n cx.1 cx.2.1 dX11_out_0 rfl (lv_at hl 0 rfl) ?_
  refine z_gets cx hp (T := TX11) 11 1 (a0 + 3) rfl zin_11 (by decide) (by decide) ra0 rfl fl_X11_18 dX11_out_1 ?_
  refine lv_iload_n cx.1 cx.2.1 dX11_out_4 rfl (lv_at hl 1 rfl) ?_
  refine z_ci cx hp (fun o' hx => zrunV (n := 1) (As := [.int (ii a1)]) (rest := []) cx hp (mX1_byteAt F l g B h (a0 + 3) a1 (zs_11_1 a0 (kt_lt ra0 (by decide)) ra0) ra1 o' hx) 1 (zs_11_1 a0 (kt_lt ra0 (by decide)) ra0) (by decide) rfl vw_X1_byteAt ml_X11_119 (by decide) rfl hl.1 rfl (Nat.le_of_ble_eq_true rfl) dX11_out_5) hf (fun r1 h H locs rr1 hp hf => ?_)
  rw [hQ]; exact z_iret cx hp rr1 dX11_out_8 hf
theorem dX11_fault_0 : decode cX11_fault 0 = .ok (.aload_n 0, 1) := by decide +kernel
theorem dX11_fault_1 : decode cX11_fault 1 = .ok (.getfield 53, 3) := by decide +kernel
theorem dX11_fault_4 : decode cX11_fault 4 = .ok (.getfield 198, 3) := by decide +kernel
theorem dX11_fault_7 : decode cX11_fault 7 = .ok (.ireturn, 1) := by decide +kernel
def fX11_fault (F : Nat) (a0 : Nat) (h : HF) : RO :=
  zgf h (a0 + 86) 0 fun x1 =>
  some (x1, h)
set_option maxHeartbeats 4000000 in
set_option maxRecDepth 100000 in
theorem mX11_fault (F : Nat) (l : Launch) (g : zG) (B : Nat) (h : HF) (a0 : Nat) (ra0 : kt a0 = 14) : CTi l g B yX11_fault cX11_fault 1 (some .int) 0 [.ref (B + a0)] h (fX11_fault F a0 h) := by
  refine z_enterI (by decide) rfl (Nat.le_of_ble_eq_true rfl) ?_
  intro p e s m args below meth c ls o Q cx hp hl hf hQ
  have hl : lv_has ls 1 [(0, .ref (B + a0))] := hl
  unfold fX11_fault at hf
  refine lv_aload_n cx.1 cx.2.1 dX11_fault_0 rfl (lv_at hl 0 rfl) ?_
  refine z_gets cx hp (T := TX11) 11 7 (a0 + 86) rfl zin_11 (by decide) (by decide) ra0 rfl fl_X11_53 dX11_fault_1 ?_
  refine z_geti cx hp (T := TX10) 10 0 rfl zin_10 (by decide) (by decide) (zs_11_7 a0 (kt_lt ra0 (by decide)) ra0) rfl fl_X11_198 dX11_fault_4 hf (fun x1 rx1 hf => ?_)
  rw [hQ]; exact z_iret cx hp rx1 dX11_fault_7 hf
theorem dX11_fullDrawers_0 : decode cX11_fullDrawers 0 = .ok (.iconst 0, 1) := by decide +kernel
theorem dX11_fullDrawers_1 : decode cX11_fullDrawers 1 = .ok (.istore_n 1, 1) := by decide +kernel
theorem dX11_fullDrawers_2 : decode cX11_fullDrawers 2 = .ok (.iconst 0, 1) := by decide +kernel
theorem dX11_fullDrawers_3 : decode cX11_fullDrawers 3 = .ok (.istore_n 2, 1) := by decide +kernel
theorem dX11_fullDrawers_4 : decode cX11_fullDrawers 4 = .ok (.iload_n 2, 1) := by decide +kernel
theorem dX11_fullDrawers_5 : decode cX11_fullDrawers 5 = .ok (.bipush 8, 2) := by decide +kernel
theorem dX11_fullDrawers_7 : decode cX11_fullDrawers 7 = .ok (.if_icmp .ge 24, 3) := by decide +kernel
theorem dX11_fullDrawers_10 : decode cX11_fullDrawers 10 = .ok (.aload_n 0, 1) := by decide +kernel
theorem dX11_fullDrawers_11 : decode cX11_fullDrawers 11 = .ok (.getfield 23, 3) := by decide +kernel
theorem dX11_fullDrawers_14 : decode cX11_fullDrawers 14 = .ok (.iload_n 2, 1) := by decide +kernel
theorem dX11_fullDrawers_15 : decode cX11_fullDrawers 15 = .ok (.aaload, 1) := by decide +kernel
theorem dX11_fullDrawers_16 : decode cX11_fullDrawers 16 = .ok (.invokevirtual 360, 3) := by decide +kernel
theorem dX11_fullDrawers_19 : decode cX11_fullDrawers 19 = .ok (.ifCond .eq 6, 3) := by decide +kernel
theorem dX11_fullDrawers_22 : decode cX11_fullDrawers 22 = .ok (.iinc 1 1, 3) := by decide +kernel
theorem dX11_fullDrawers_25 : decode cX11_fullDrawers 25 = .ok (.iinc 2 1, 3) := by decide +kernel
theorem dX11_fullDrawers_28 : decode cX11_fullDrawers 28 = .ok (.goto (-24), 3) := by decide +kernel
theorem dX11_fullDrawers_31 : decode cX11_fullDrawers 31 = .ok (.iload_n 1, 1) := by decide +kernel
theorem dX11_fullDrawers_32 : decode cX11_fullDrawers 32 = .ok (.ireturn, 1) := by decide +kernel
def LX11_fullDrawers_4 (F : Nat) (u0 : Nat) (k31 : Int → HF → RO) : Nat → Int → Int → HF → RO
  | 0, _, _, _ => none
  | n + 1, v1, v2, h =>
    if v2 < 8 then (
      zrs (u0 + 5) v2 fun x1 =>
      zbd (fX0_isHeld F x1 h) fun r2 h =>
      zjn (fun (x25_1 : Int) (x25_2 : Int) (h : HF) => (
        zlet (wr (x25_2 + 1)) fun x3 =>
        LX11_fullDrawers_4 F u0 k31 n x25_1 x3 h
      )) fun j25 =>
      if r2 = 0 then (
        j25 v1 v2 h
      ) else (
        zlet (wr (v1 + 1)) fun x4 =>
        j25 x4 v2 h
      )
    ) else (
      k31 v1 h
    )
set_option maxHeartbeats 4000000 in
set_option maxRecDepth 100000 in
theorem wX11_fullDrawers_4 {p : Program} {l : Launch} {e : Env} {s : State} {m : MethodId} {args : Array Value} {below : List Frame} {meth : Method} {c : Code} {Q : State → Prop} {g : zG} {B : Nat} {o : Int × HF} (F : Nat) (cx : Cx p s m args meth c cX11_fullDrawers 3 RX11 (some .int) g B) (u0 : Nat) (ru0 : kt u0 = 14) (k31 : Int → HF → RO) (hk31 : ∀ (x1 : Int) (h : HF) (H : Heap) (locs : List Loc) (ls : Array Slot), rng x1 → Hp g B s h H locs → lv_has ls 3 [(1, .int (ii x1))] → k31 x1 h = some o → W p l e (rmn 1) s m args below meth c H locs 0 0 Q (F0 m 31 ls [])) : ∀ (n : Nat) (v1 : Int) (v2 : Int) (h : HF) (H : Heap) (locs : List Loc) (ls : Array Slot), rng v1 → rng v2 → Hp g B s h H locs → lv_has ls 3 [(0, .ref (B + u0)), (1, .int (ii v1)), (2, .int (ii v2))] → LX11_fullDrawers_4 F u0 k31 n v1 v2 h = some o → W p l e (rmn 1) s m args below meth c H locs 0 0 Q (F0 m 4 ls []) := by
  intro n
  induction n with
  | zero =>
    intro v1 v2 h H locs ls rv1 rv2 hp hl hf
    cases hf
  | succ n ih =>
    intro v1 v2 h H locs ls rv1 rv2 hp hl hf
    rw [LX11_fullDrawers_4] at hf
    refine lv_iload_n cx.1 cx.2.1 dX11_fullDrawers_4 rfl (lv_at hl 2 rfl) ?_
    refine z_bipush cx (by decide) dX11_fullDrawers_5 ?_
    refine z_icmp_ge cx rv2 (by decide) (tgt := 31) dX11_fullDrawers_7 (by decide) hf (fun _ hf => ?_) (fun _ hf => ?_)
    · refine lv_aload_n cx.1 cx.2.1 dX11_fullDrawers_10 rfl (lv_at hl 0 rfl) ?_
      refine z_gets cx hp (T := TX11) 11 2 (u0 + 5) rfl zin_11 (by decide) (by decide) ru0 rfl fl_X11_23 dX11_fullDrawers_11 ?_
      refine lv_iload_n cx.1 cx.2.1 dX11_fullDrawers_14 rfl (lv_at hl 2 rfl) ?_
      refine z_aald1 cx hp (zs_11_2 u0 (kt_lt ru0 (by decide)) ru0) rv2 dX11_fullDrawers_15 hf (fun x1 rx1 hf => ?_)
      refine z_ci cx hp (fun o' hx => zrunV (n := 1) (As := []) (rest := []) cx hp (mX0_isHeld F l g B h x1 rx1 o' hx) 0 rx1 (by decide) rfl vw_X0_isHeld ml_X11_360 (by decide) rfl hl.1 rfl (Nat.le_of_ble_eq_true rfl) dX11_fullDrawers_16) hf (fun r2 h H locs rr2 hp hf => ?_)
      refine z_jn hf (fun j => ∀ (x25_1 : Int) (x25_2 : Int) (h : HF) (H : Heap) (locs : List Loc) (ls : Array Slot), rng x25_1 → rng x25_2 → Hp g B s h H locs → lv_has ls 3 [(0, .ref (B + u0)), (1, .int (ii x25_1)), (2, .int (ii x25_2))] → j x25_1 x25_2 h = some o → W p l e (rmn 1) s m args below meth c H locs 0 0 Q (F0 m 25 ls [])) ?_ (fun j25 hj25 hf => ?_)
      · intro x25_1 x25_2 h H locs ls rx25_1 rx25_2 hp hl hf
        refine z_iinc cx (fun x3 => [(2, .int (ii x3)), (0, .ref (B + u0)), (1, .int (ii x25_1))]) dX11_fullDrawers_25 hl (k := 2) rfl (by decide) (fun _ => rfl) hf (fun x3 rx3 hf ls hl => ?_)
        refine lv_goto (tgt := 4) cx.1 cx.2.1 dX11_fullDrawers_28 (by decide) ?_
        exact ih x25_1 x3 h _ _ ls rx25_1 rx3 hp (lv_sub hl [1, 2, 0] rfl) hf
      refine z_if_eq cx rr2 (tgt := 25) dX11_fullDrawers_19 (by decide) hf (fun _ hf => ?_) (fun _ hf => ?_)
      · exact hj25 v1 v2 h _ _ ls rv1 rv2 hp (lv_sub hl [0, 1, 2] rfl) hf
      · refine z_iinc cx (fun x4 => [(1, .int (ii x4)), (0, .ref (B + u0)), (2, .int (ii v2))]) dX11_fullDrawers_22 hl (k := 1) rfl (by decide) (fun _ => rfl) hf (fun x4 rx4 hf ls hl => ?_)
        exact hj25 x4 v2 h _ _ ls rx4 rv2 hp (lv_sub hl [1, 0, 2] rfl) hf
    · exact hk31 v1 h _ _ ls rv1 hp (lv_sub hl [1] rfl) hf
def fX11_fullDrawers (F : Nat) (a0 : Nat) (h : HF) : RO :=
  zjn (fun (x31_1 : Int) (h : HF) => (
    some (x31_1, h)
  )) fun j31 =>
  LX11_fullDrawers_4 F a0 j31 F 0 0 h
set_option maxHeartbeats 4000000 in
set_option maxRecDepth 100000 in
theorem mX11_fullDrawers (F : Nat) (l : Launch) (g : zG) (B : Nat) (h : HF) (a0 : Nat) (ra0 : kt a0 = 14) : CTi l g B yX11_fullDrawers cX11_fullDrawers 3 (some .int) 1 [.ref (B + a0)] h (fX11_fullDrawers F a0 h) := by
  refine z_enterI (by decide) rfl (Nat.le_of_ble_eq_true rfl) ?_
  intro p e s m args below meth c ls o Q cx hp hl hf hQ
  have hl : lv_has ls 3 [(0, .ref (B + a0))] := hl
  unfold fX11_fullDrawers at hf
  refine z_iconst cx dX11_fullDrawers_0 ?_
  refine lv_istore_n (lv' := [(1, .int (ii 0)), (0, .ref (B + a0))]) cx.1 cx.2.1 dX11_fullDrawers_1 rfl hl (by decide) rfl (fun ls hl => ?_)
  refine z_iconst cx dX11_fullDrawers_2 ?_
  refine lv_istore_n (lv' := [(2, .int (ii 0)), (1, .int (ii 0)), (0, .ref (B + a0))]) cx.1 cx.2.1 dX11_fullDrawers_3 rfl hl (by decide) rfl (fun ls hl => ?_)
  refine z_jn hf (fun j => ∀ (x31_1 : Int) (h : HF) (H : Heap) (locs : List Loc) (ls : Array Slot), rng x31_1 → Hp g B s h H locs → lv_has ls 3 [(1, .int (ii x31_1))] → j x31_1 h = some o → W p l e (rmn 1) s m args below meth c H locs 0 0 Q (F0 m 31 ls [])) ?_ (fun j31 hj31 hf => ?_)
  · intro x31_1 h H locs ls rx31_1 hp hl hf
    refine lv_iload_n cx.1 cx.2.1 dX11_fullDrawers_31 rfl (lv_at hl 0 rfl) ?_
    rw [hQ]; exact z_iret cx hp rx31_1 dX11_fullDrawers_32 hf
  exact wX11_fullDrawers_4 F cx a0 ra0 j31 hj31 F 0 0 h _ _ ls (by decide) (by decide) hp (lv_sub hl [2, 1, 0] rfl) hf
theorem dX11_fullLists_0 : decode cX11_fullLists 0 = .ok (.iconst 0, 1) := by decide +kernel
theorem dX11_fullLists_1 : decode cX11_fullLists 1 = .ok (.istore_n 1, 1) := by decide +kernel
theorem dX11_fullLists_2 : decode cX11_fullLists 2 = .ok (.iconst 0, 1) := by decide +kernel
theorem dX11_fullLists_3 : decode cX11_fullLists 3 = .ok (.istore_n 2, 1) := by decide +kernel
theorem dX11_fullLists_4 : decode cX11_fullLists 4 = .ok (.iload_n 2, 1) := by decide +kernel
theorem dX11_fullLists_5 : decode cX11_fullLists 5 = .ok (.iconst 4, 1) := by decide +kernel
theorem dX11_fullLists_6 : decode cX11_fullLists 6 = .ok (.if_icmp .ge 24, 3) := by decide +kernel
theorem dX11_fullLists_9 : decode cX11_fullLists 9 = .ok (.aload_n 0, 1) := by decide +kernel
theorem dX11_fullLists_10 : decode cX11_fullLists 10 = .ok (.getfield 41, 3) := by decide +kernel
theorem dX11_fullLists_13 : decode cX11_fullLists 13 = .ok (.iload_n 2, 1) := by decide +kernel
theorem dX11_fullLists_14 : decode cX11_fullLists 14 = .ok (.aaload, 1) := by decide +kernel
theorem dX11_fullLists_15 : decode cX11_fullLists 15 = .ok (.invokevirtual 364, 3) := by decide +kernel
theorem dX11_fullLists_18 : decode cX11_fullLists 18 = .ok (.ifCond .eq 6, 3) := by decide +kernel
theorem dX11_fullLists_21 : decode cX11_fullLists 21 = .ok (.iinc 1 1, 3) := by decide +kernel
theorem dX11_fullLists_24 : decode cX11_fullLists 24 = .ok (.iinc 2 1, 3) := by decide +kernel
theorem dX11_fullLists_27 : decode cX11_fullLists 27 = .ok (.goto (-23), 3) := by decide +kernel
theorem dX11_fullLists_30 : decode cX11_fullLists 30 = .ok (.iload_n 1, 1) := by decide +kernel
theorem dX11_fullLists_31 : decode cX11_fullLists 31 = .ok (.ireturn, 1) := by decide +kernel
def LX11_fullLists_4 (F : Nat) (u0 : Nat) (k30 : Int → HF → RO) : Nat → Int → Int → HF → RO
  | 0, _, _, _ => none
  | n + 1, v1, v2, h =>
    if v2 < 4 then (
      zrl h (u0 + 77) v2 fun x1 =>
      zbd (fX4_isHeld F x1 h) fun r2 h =>
      zjn (fun (x24_1 : Int) (x24_2 : Int) (h : HF) => (
        zlet (wr (x24_2 + 1)) fun x3 =>
        LX11_fullLists_4 F u0 k30 n x24_1 x3 h
      )) fun j24 =>
      if r2 = 0 then (
        j24 v1 v2 h
      ) else (
        zlet (wr (v1 + 1)) fun x4 =>
        j24 x4 v2 h
      )
    ) else (
      k30 v1 h
    )
set_option maxHeartbeats 4000000 in
set_option maxRecDepth 100000 in
theorem wX11_fullLists_4 {p : Program} {l : Launch} {e : Env} {s : State} {m : MethodId} {args : Array Value} {below : List Frame} {meth : Method} {c : Code} {Q : State → Prop} {g : zG} {B : Nat} {o : Int × HF} (F : Nat) (cx : Cx p s m args meth c cX11_fullLists 3 RX11 (some .int) g B) (u0 : Nat) (ru0 : kt u0 = 14) (k30 : Int → HF → RO) (hk30 : ∀ (x1 : Int) (h : HF) (H : Heap) (locs : List Loc) (ls : Array Slot), rng x1 → Hp g B s h H locs → lv_has ls 3 [(1, .int (ii x1))] → k30 x1 h = some o → W p l e (rmn 1) s m args below meth c H locs 0 0 Q (F0 m 30 ls [])) : ∀ (n : Nat) (v1 : Int) (v2 : Int) (h : HF) (H : Heap) (locs : List Loc) (ls : Array Slot), rng v1 → rng v2 → Hp g B s h H locs → lv_has ls 3 [(0, .ref (B + u0)), (1, .int (ii v1)), (2, .int (ii v2))] → LX11_fullLists_4 F u0 k30 n v1 v2 h = some o → W p l e (rmn 1) s m args below meth c H locs 0 0 Q (F0 m 4 ls []) := by
  intro n
  induction n with
  | zero =>
    intro v1 v2 h H locs ls rv1 rv2 hp hl hf
    cases hf
  | succ n ih =>
    intro v1 v2 h H locs ls rv1 rv2 hp hl hf
    rw [LX11_fullLists_4] at hf
    refine lv_iload_n cx.1 cx.2.1 dX11_fullLists_4 rfl (lv_at hl 2 rfl) ?_
    refine z_iconst cx dX11_fullLists_5 ?_
    refine z_icmp_ge cx rv2 (by decide) (tgt := 30) dX11_fullLists_6 (by decide) hf (fun _ hf => ?_) (fun _ hf => ?_)
    · refine lv_aload_n cx.1 cx.2.1 dX11_fullLists_9 rfl (lv_at hl 0 rfl) ?_
      refine z_gets cx hp (T := TX11) 11 5 (u0 + 77) rfl zin_11 (by decide) (by decide) ru0 rfl fl_X11_41 dX11_fullLists_10 ?_
      refine lv_iload_n cx.1 cx.2.1 dX11_fullLists_13 rfl (lv_at hl 2 rfl) ?_
      refine z_aald2 cx hp (zs_11_5 u0 (kt_lt ru0 (by decide)) ru0) rv2 dX11_fullLists_14 hf (fun x1 rx1 hf => ?_)
      refine z_ci cx hp (fun o' hx => zrunV (n := 1) (As := []) (rest := []) cx hp (mX4_isHeld F l g B h x1 rx1 o' hx) 4 rx1 (by decide) rfl vw_X4_isHeld ml_X11_364 (by decide) rfl hl.1 rfl (Nat.le_of_ble_eq_true rfl) dX11_fullLists_15) hf (fun r2 h H locs rr2 hp hf => ?_)
      refine z_jn hf (fun j => ∀ (x24_1 : Int) (x24_2 : Int) (h : HF) (H : Heap) (locs : List Loc) (ls : Array Slot), rng x24_1 → rng x24_2 → Hp g B s h H locs → lv_has ls 3 [(0, .ref (B + u0)), (1, .int (ii x24_1)), (2, .int (ii x24_2))] → j x24_1 x24_2 h = some o → W p l e (rmn 1) s m args below meth c H locs 0 0 Q (F0 m 24 ls [])) ?_ (fun j24 hj24 hf => ?_)
      · intro x24_1 x24_2 h H locs ls rx24_1 rx24_2 hp hl hf
        refine z_iinc cx (fun x3 => [(2, .int (ii x3)), (0, .ref (B + u0)), (1, .int (ii x24_1))]) dX11_fullLists_24 hl (k := 2) rfl (by decide) (fun _ => rfl) hf (fun x3 rx3 hf ls hl => ?_)
        refine lv_goto (tgt := 4) cx.1 cx.2.1 dX11_fullLists_27 (by decide) ?_
        exact ih x24_1 x3 h _ _ ls rx24_1 rx3 hp (lv_sub hl [1, 2, 0] rfl) hf
      refine z_if_eq cx rr2 (tgt := 24) dX11_fullLists_18 (by decide) hf (fun _ hf => ?_) (fun _ hf => ?_)
      · exact hj24 v1 v2 h _ _ ls rv1 rv2 hp (lv_sub hl [0, 1, 2] rfl) hf
      · refine z_iinc cx (fun x4 => [(1, .int (ii x4)), (0, .ref (B + u0)), (2, .int (ii v2))]) dX11_fullLists_21 hl (k := 1) rfl (by decide) (fun _ => rfl) hf (fun x4 rx4 hf ls hl => ?_)
        exact hj24 x4 v2 h _ _ ls rx4 rv2 hp (lv_sub hl [1, 0, 2] rfl) hf
    · exact hk30 v1 h _ _ ls rv1 hp (lv_sub hl [1] rfl) hf
def fX11_fullLists (F : Nat) (a0 : Nat) (h : HF) : RO :=
  zjn (fun (x30_1 : Int) (h : HF) => (
    some (x30_1, h)
  )) fun j30 =>
  LX11_fullLists_4 F a0 j30 F 0 0 h
set_option maxHeartbeats 4000000 in
set_option maxRecDepth 100000 in
theorem mX11_fullLists (F : Nat) (l : Launch) (g : zG) (B : Nat) (h : HF) (a0 : Nat) (ra0 : kt a0 = 14) : CTi l g B yX11_fullLists cX11_fullLists 3 (some .int) 1 [.ref (B + a0)] h (fX11_fullLists F a0 h) := by
  refine z_enterI (by decide) rfl (Nat.le_of_ble_eq_true rfl) ?_
  intro p e s m args below meth c ls o Q cx hp hl hf hQ
  have hl : lv_has ls 3 [(0, .ref (B + a0))] := hl
  unfold fX11_fullLists at hf
  refine z_iconst cx dX11_fullLists_0 ?_
  refine lv_istore_n (lv' := [(1, .int (ii 0)), (0, .ref (B + a0))]) cx.1 cx.2.1 dX11_fullLists_1 rfl hl (by decide) rfl (fun ls hl => ?_)
  refine z_iconst cx dX11_fullLists_2 ?_
  refine lv_istore_n (lv' := [(2, .int (ii 0)), (1, .int (ii 0)), (0, .ref (B + a0))]) cx.1 cx.2.1 dX11_fullLists_3 rfl hl (by decide) rfl (fun ls hl => ?_)
  refine z_jn hf (fun j => ∀ (x30_1 : Int) (h : HF) (H : Heap) (locs : List Loc) (ls : Array Slot), rng x30_1 → Hp g B s h H locs → lv_has ls 3 [(1, .int (ii x30_1))] → j x30_1 h = some o → W p l e (rmn 1) s m args below meth c H locs 0 0 Q (F0 m 30 ls [])) ?_ (fun j30 hj30 hf => ?_)
  · intro x30_1 h H locs ls rx30_1 hp hl hf
    refine lv_iload_n cx.1 cx.2.1 dX11_fullLists_30 rfl (lv_at hl 0 rfl) ?_
    rw [hQ]; exact z_iret cx hp rx30_1 dX11_fullLists_31 hf
  exact wX11_fullLists_4 F cx a0 ra0 j30 hj30 F 0 0 h _ _ ls (by decide) (by decide) hp (lv_sub hl [2, 1, 0] rfl) hf
theorem dX11_numberClasses_0 : decode cX11_numberClasses 0 = .ok (.iconst 0, 1) := by decide +kernel
theorem dX11_numberClasses_1 : decode cX11_numberClasses 1 = .ok (.istore_n 3, 1) := by decide +kernel
theorem dX11_numberClasses_2 : decode cX11_numberClasses 2 = .ok (.iconst 0, 1) := by decide +kernel
theorem dX11_numberClasses_3 : decode cX11_numberClasses 3 = .ok (.istore 4, 2) := by decide +kernel
theorem dX11_numberClasses_5 : decode cX11_numberClasses 5 = .ok (.iload 4, 2) := by decide +kernel
theorem dX11_numberClasses_7 : decode cX11_numberClasses 7 = .ok (.iload_n 2, 1) := by decide +kernel
theorem dX11_numberClasses_8 : decode cX11_numberClasses 8 = .ok (.if_icmp .ge 56, 3) := by decide +kernel
theorem dX11_numberClasses_11 : decode cX11_numberClasses 11 = .ok (.aload_n 1, 1) := by decide +kernel
theorem dX11_numberClasses_12 : decode cX11_numberClasses 12 = .ok (.iload 4, 2) := by decide +kernel
theorem dX11_numberClasses_14 : decode cX11_numberClasses 14 = .ok (.iaload, 1) := by decide +kernel
theorem dX11_numberClasses_15 : decode cX11_numberClasses 15 = .ok (.iload 4, 2) := by decide +kernel
theorem dX11_numberClasses_17 : decode cX11_numberClasses 17 = .ok (.if_icmp .ne 25, 3) := by decide +kernel
theorem dX11_numberClasses_20 : decode cX11_numberClasses 20 = .ok (.aload_n 0, 1) := by decide +kernel
theorem dX11_numberClasses_21 : decode cX11_numberClasses 21 = .ok (.getfield 101, 3) := by decide +kernel
theorem dX11_numberClasses_24 : decode cX11_numberClasses 24 = .ok (.iload_n 3, 1) := by decide +kernel
theorem dX11_numberClasses_25 : decode cX11_numberClasses 25 = .ok (.iload 4, 2) := by decide +kernel
theorem dX11_numberClasses_27 : decode cX11_numberClasses 27 = .ok (.iastore, 1) := by decide +kernel
theorem dX11_numberClasses_28 : decode cX11_numberClasses 28 = .ok (.aload_n 0, 1) := by decide +kernel
theorem dX11_numberClasses_29 : decode cX11_numberClasses 29 = .ok (.getfield 105, 3) := by decide +kernel
theorem dX11_numberClasses_32 : decode cX11_numberClasses 32 = .ok (.iload 4, 2) := by decide +kernel
theorem dX11_numberClasses_34 : decode cX11_numberClasses 34 = .ok (.iload_n 3, 1) := by decide +kernel
theorem dX11_numberClasses_35 : decode cX11_numberClasses 35 = .ok (.iastore, 1) := by decide +kernel
theorem dX11_numberClasses_36 : decode cX11_numberClasses 36 = .ok (.iinc 3 1, 3) := by decide +kernel
theorem dX11_numberClasses_39 : decode cX11_numberClasses 39 = .ok (.goto 19, 3) := by decide +kernel
theorem dX11_numberClasses_42 : decode cX11_numberClasses 42 = .ok (.aload_n 0, 1) := by decide +kernel
theorem dX11_numberClasses_43 : decode cX11_numberClasses 43 = .ok (.getfield 105, 3) := by decide +kernel
theorem dX11_numberClasses_46 : decode cX11_numberClasses 46 = .ok (.iload 4, 2) := by decide +kernel
theorem dX11_numberClasses_48 : decode cX11_numberClasses 48 = .ok (.aload_n 0, 1) := by decide +kernel
theorem dX11_numberClasses_49 : decode cX11_numberClasses 49 = .ok (.getfield 105, 3) := by decide +kernel
theorem dX11_numberClasses_52 : decode cX11_numberClasses 52 = .ok (.aload_n 1, 1) := by decide +kernel
theorem dX11_numberClasses_53 : decode cX11_numberClasses 53 = .ok (.iload 4, 2) := by decide +kernel
theorem dX11_numberClasses_55 : decode cX11_numberClasses 55 = .ok (.iaload, 1) := by decide +kernel
theorem dX11_numberClasses_56 : decode cX11_numberClasses 56 = .ok (.iaload, 1) := by decide +kernel
theorem dX11_numberClasses_57 : decode cX11_numberClasses 57 = .ok (.iastore, 1) := by decide +kernel
theorem dX11_numberClasses_58 : decode cX11_numberClasses 58 = .ok (.iinc 4 1, 3) := by decide +kernel
theorem dX11_numberClasses_61 : decode cX11_numberClasses 61 = .ok (.goto (-56), 3) := by decide +kernel
theorem dX11_numberClasses_64 : decode cX11_numberClasses 64 = .ok (.iload_n 3, 1) := by decide +kernel
theorem dX11_numberClasses_65 : decode cX11_numberClasses 65 = .ok (.ireturn, 1) := by decide +kernel
def LX11_numberClasses_5 (F : Nat) (u0 : Nat) (u1 : Nat) (u2 : Int) (k64 : Int → HF → RO) : Nat → Int → Int → HF → RO
  | 0, _, _, _ => none
  | n + 1, v3, v4, h =>
    if v4 < u2 then (
      zrd h u1 v4 fun x1 =>
      zjn (fun (x58_3 : Int) (x58_4 : Int) (h : HF) => (
        zlet (wr (x58_4 + 1)) fun x2 =>
        LX11_numberClasses_5 F u0 u1 u2 k64 n x58_3 x2 h
      )) fun j58 =>
      if x1 = v4 then (
        zwr h (u0 + 115) v3 v4 fun h =>
        zwr h (u0 + 116) v4 v3 fun h =>
        zlet (wr (v3 + 1)) fun x3 =>
        j58 x3 v4 h
      ) else (
        zrd h u1 v4 fun x4 =>
        zrd h (u0 + 116) x4 fun x5 =>
        zwr h (u0 + 116) v4 x5 fun h =>
        j58 v3 v4 h
      )
    ) else (
      k64 v3 h
    )
set_option maxHeartbeats 4000000 in
set_option maxRecDepth 100000 in
theorem wX11_numberClasses_5 {p : Program} {l : Launch} {e : Env} {s : State} {m : MethodId} {args : Array Value} {below : List Frame} {meth : Method} {c : Code} {Q : State → Prop} {g : zG} {B : Nat} {o : Int × HF} (F : Nat) (cx : Cx p s m args meth c cX11_numberClasses 5 RX11 (some .int) g B) (u0 : Nat) (ru0 : kt u0 = 14) (u1 : Nat) (ru1 : kt u1 = 0) (u2 : Int) (ru2 : rng u2) (k64 : Int → HF → RO) (hk64 : ∀ (x3 : Int) (h : HF) (H : Heap) (locs : List Loc) (ls : Array Slot), rng x3 → Hp g B s h H locs → lv_has ls 5 [(3, .int (ii x3))] → k64 x3 h = some o → W p l e (rmn 0) s m args below meth c H locs 0 0 Q (F0 m 64 ls [])) : ∀ (n : Nat) (v3 : Int) (v4 : Int) (h : HF) (H : Heap) (locs : List Loc) (ls : Array Slot), rng v3 → rng v4 → Hp g B s h H locs → lv_has ls 5 [(0, .ref (B + u0)), (1, .ref (B + u1)), (2, .int (ii u2)), (3, .int (ii v3)), (4, .int (ii v4))] → LX11_numberClasses_5 F u0 u1 u2 k64 n v3 v4 h = some o → W p l e (rmn 0) s m args below meth c H locs 0 0 Q (F0 m 5 ls []) := by
  intro n
  induction n with
  | zero =>
    intro v3 v4 h H locs ls rv3 rv4 hp hl hf
    cases hf
  | succ n ih =>
    intro v3 v4 h H locs ls rv3 rv4 hp hl hf
    rw [LX11_numberClasses_5] at hf
    refine lv_iload cx.1 cx.2.1 dX11_numberClasses_5 (lv_at hl 4 rfl) ?_
    refine lv_iload_n cx.1 cx.2.1 dX11_numberClasses_7 rfl (lv_at hl 2 rfl) ?_
    refine z_icmp_ge cx rv4 ru2 (tgt := 64) dX11_numberClasses_8 (by decide) hf (fun _ hf => ?_) (fun _ hf => ?_)
    · refine lv_aload_n cx.1 cx.2.1 dX11_numberClasses_11 rfl (lv_at hl 1 rfl) ?_
      refine lv_iload cx.1 cx.2.1 dX11_numberClasses_12 (lv_at hl 4 rfl) ?_
      refine z_iald cx hp ru1 rv4 dX11_numberClasses_14 hf (fun x1 rx1 hf => ?_)
      refine lv_iload cx.1 cx.2.1 dX11_numberClasses_15 (lv_at hl 4 rfl) ?_
      refine z_jn hf (fun j => ∀ (x58_3 : Int) (x58_4 : Int) (h : HF) (H : Heap) (locs : List Loc) (ls : Array Slot), rng x58_3 → rng x58_4 → Hp g B s h H locs → lv_has ls 5 [(0, .ref (B + u0)), (1, .ref (B + u1)), (2, .int (ii u2)), (3, .int (ii x58_3)), (4, .int (ii x58_4))] → j x58_3 x58_4 h = some o → W p l e (rmn 0) s m args below meth c H locs 0 0 Q (F0 m 58 ls [])) ?_ (fun j58 hj58 hf => ?_)
      · intro x58_3 x58_4 h H locs ls rx58_3 rx58_4 hp hl hf
        refine z_iinc cx (fun x2 => [(4, .int (ii x2)), (0, .ref (B + u0)), (1, .ref (B + u1)), (2, .int (ii u2)), (3, .int (ii x58_3))]) dX11_numberClasses_58 hl (k := 4) rfl (by decide) (fun _ => rfl) hf (fun x2 rx2 hf ls hl => ?_)
        refine lv_goto (tgt := 5) cx.1 cx.2.1 dX11_numberClasses_61 (by decide) ?_
        exact ih x58_3 x2 h _ _ ls rx58_3 rx2 hp (lv_sub hl [1, 2, 3, 4, 0] rfl) hf
      refine z_icmp_ne cx rx1 rv4 (tgt := 42) dX11_numberClasses_17 (by decide) hf (fun _ hf => ?_) (fun _ hf => ?_)
      · refine lv_aload_n cx.1 cx.2.1 dX11_numberClasses_20 rfl (lv_at hl 0 rfl) ?_
        refine z_gets cx hp (T := TX11) 11 14 (u0 + 115) rfl zin_11 (by decide) (by decide) ru0 rfl fl_X11_101 dX11_numberClasses_21 ?_
        refine lv_iload_n cx.1 cx.2.1 dX11_numberClasses_24 rfl (lv_at hl 3 rfl) ?_
        refine lv_iload cx.1 cx.2.1 dX11_numberClasses_25 (lv_at hl 4 rfl) ?_
        refine z_iast cx hp (zs_11_14 u0 (kt_lt ru0 (by decide)) ru0) rv3 rv4 dX11_numberClasses_27 hf (fun h H locs hp hf => ?_)
        refine lv_aload_n cx.1 cx.2.1 dX11_numberClasses_28 rfl (lv_at hl 0 rfl) ?_
        refine z_gets cx hp (T := TX11) 11 15 (u0 + 116) rfl zin_11 (by decide) (by decide) ru0 rfl fl_X11_105 dX11_numberClasses_29 ?_
        refine lv_iload cx.1 cx.2.1 dX11_numberClasses_32 (lv_at hl 4 rfl) ?_
        refine lv_iload_n cx.1 cx.2.1 dX11_numberClasses_34 rfl (lv_at hl 3 rfl) ?_
        refine z_iast cx hp (zs_11_15 u0 (kt_lt ru0 (by decide)) ru0) rv4 rv3 dX11_numberClasses_35 hf (fun h H locs hp hf => ?_)
        refine z_iinc cx (fun x3 => [(3, .int (ii x3)), (0, .ref (B + u0)), (1, .ref (B + u1)), (2, .int (ii u2)), (4, .int (ii v4))]) dX11_numberClasses_36 hl (k := 3) rfl (by decide) (fun _ => rfl) hf (fun x3 rx3 hf ls hl => ?_)
        refine lv_goto (tgt := 58) cx.1 cx.2.1 dX11_numberClasses_39 (by decide) ?_
        exact hj58 x3 v4 h _ _ ls rx3 rv4 hp (lv_sub hl [1, 2, 3, 0, 4] rfl) hf
      · refine lv_aload_n cx.1 cx.2.1 dX11_numberClasses_42 rfl (lv_at hl 0 rfl) ?_
        refine z_gets cx hp (T := TX11) 11 15 (u0 + 116) rfl zin_11 (by decide) (by decide) ru0 rfl fl_X11_105 dX11_numberClasses_43 ?_
        refine lv_iload cx.1 cx.2.1 dX11_numberClasses_46 (lv_at hl 4 rfl) ?_
        refine lv_aload_n cx.1 cx.2.1 dX11_numberClasses_48 rfl (lv_at hl 0 rfl) ?_
        refine z_gets cx hp (T := TX11) 11 15 (u0 + 116) rfl zin_11 (by decide) (by decide) ru0 rfl fl_X11_105 dX11_numberClasses_49 ?_
        refine lv_aload_n cx.1 cx.2.1 dX11_numberClasses_52 rfl (lv_at hl 1 rfl) ?_
        refine lv_iload cx.1 cx.2.1 dX11_numberClasses_53 (lv_at hl 4 rfl) ?_
        refine z_iald cx hp ru1 rv4 dX11_numberClasses_55 hf (fun x4 rx4 hf => ?_)
        refine z_iald cx hp (zs_11_15 u0 (kt_lt ru0 (by decide)) ru0) rx4 dX11_numberClasses_56 hf (fun x5 rx5 hf => ?_)
        refine z_iast cx hp (zs_11_15 u0 (kt_lt ru0 (by decide)) ru0) rv4 rx5 dX11_numberClasses_57 hf (fun h H locs hp hf => ?_)
        exact hj58 v3 v4 h _ _ ls rv3 rv4 hp (lv_sub hl [0, 1, 2, 3, 4] rfl) hf
    · exact hk64 v3 h _ _ ls rv3 hp (lv_sub hl [3] rfl) hf
def fX11_numberClasses (F : Nat) (a0 : Nat) (a1 : Nat) (a2 : Int) (h : HF) : RO :=
  zjn (fun (x64_3 : Int) (h : HF) => (
    some (x64_3, h)
  )) fun j64 =>
  LX11_numberClasses_5 F a0 a1 a2 j64 F 0 0 h
set_option maxHeartbeats 4000000 in
set_option maxRecDepth 100000 in
theorem mX11_numberClasses (F : Nat) (l : Launch) (g : zG) (B : Nat) (h : HF) (a0 : Nat) (a1 : Nat) (a2 : Int) (ra0 : kt a0 = 14) (ra1 : kt a1 = 0) (ra2 : rng a2) : CTi l g B yX11_numberClasses cX11_numberClasses 5 (some .int) 0 [.ref (B + a0), .ref (B + a1), .int (ii a2)] h (fX11_numberClasses F a0 a1 a2 h) := by
  refine z_enterI (by decide) rfl (Nat.le_of_ble_eq_true rfl) ?_
  intro p e s m args below meth c ls o Q cx hp hl hf hQ
  have hl : lv_has ls 5 [(0, .ref (B + a0)), (1, .ref (B + a1)), (2, .int (ii a2))] := hl
  unfold fX11_numberClasses at hf
  refine z_iconst cx dX11_numberClasses_0 ?_
  refine lv_istore_n (lv' := [(3, .int (ii 0)), (0, .ref (B + a0)), (1, .ref (B + a1)), (2, .int (ii a2))]) cx.1 cx.2.1 dX11_numberClasses_1 rfl hl (by decide) rfl (fun ls hl => ?_)
  refine z_iconst cx dX11_numberClasses_2 ?_
  refine lv_istore (lv' := [(4, .int (ii 0)), (3, .int (ii 0)), (0, .ref (B + a0)), (1, .ref (B + a1)), (2, .int (ii a2))]) cx.1 cx.2.1 dX11_numberClasses_3 hl (by decide) rfl (fun ls hl => ?_)
  refine z_jn hf (fun j => ∀ (x64_3 : Int) (h : HF) (H : Heap) (locs : List Loc) (ls : Array Slot), rng x64_3 → Hp g B s h H locs → lv_has ls 5 [(3, .int (ii x64_3))] → j x64_3 h = some o → W p l e (rmn 0) s m args below meth c H locs 0 0 Q (F0 m 64 ls [])) ?_ (fun j64 hj64 hf => ?_)
  · intro x64_3 h H locs ls rx64_3 hp hl hf
    refine lv_iload_n cx.1 cx.2.1 dX11_numberClasses_64 rfl (lv_at hl 0 rfl) ?_
    rw [hQ]; exact z_iret cx hp rx64_3 dX11_numberClasses_65 hf
  exact wX11_numberClasses_5 F cx a0 ra0 a1 ra1 a2 ra2 j64 hj64 F 0 0 h _ _ ls (by decide) (by decide) hp (lv_sub hl [2, 3, 4, 1, 0] rfl) hf
theorem dX11_hasBit_0 : decode cX11_hasBit 0 = .ok (.iload_n 0, 1) := by decide +kernel
theorem dX11_hasBit_1 : decode cX11_hasBit 1 = .ok (.iload_n 1, 1) := by decide +kernel
theorem dX11_hasBit_2 : decode cX11_hasBit 2 = .ok (.ishr, 1) := by decide +kernel
theorem dX11_hasBit_3 : decode cX11_hasBit 3 = .ok (.iconst 1, 1) := by decide +kernel
theorem dX11_hasBit_4 : decode cX11_hasBit 4 = .ok (.iand, 1) := by decide +kernel
theorem dX11_hasBit_5 : decode cX11_hasBit 5 = .ok (.ifCond .eq 7, 3) := by decide +kernel
theorem dX11_hasBit_8 : decode cX11_hasBit 8 = .ok (.iconst 1, 1) := by decide +kernel
theorem dX11_hasBit_9 : decode cX11_hasBit 9 = .ok (.goto 4, 3) := by decide +kernel
theorem dX11_hasBit_12 : decode cX11_hasBit 12 = .ok (.iconst 0, 1) := by decide +kernel
theorem dX11_hasBit_13 : decode cX11_hasBit 13 = .ok (.ireturn, 1) := by decide +kernel
def fX11_hasBit (F : Nat) (a0 : Int) (a1 : Int) (h : HF) : RO :=
  zjn (fun (y13_0 : Int) (h : HF) => (
    zrz y13_0 h
  )) fun j13 =>
  if wand (wshr a0 a1) 1 = 0 then (
    j13 0 h
  ) else (
    j13 1 h
  )
set_option maxHeartbeats 4000000 in
set_option maxRecDepth 100000 in
theorem mX11_hasBit (F : Nat) (l : Launch) (g : zG) (B : Nat) (h : HF) (a0 : Int) (a1 : Int) (ra0 : rng a0) (ra1 : rng a1) : CTi l g B yX11_hasBit cX11_hasBit 2 (some .boolean) 0 [.int (ii a0), .int (ii a1)] h (fX11_hasBit F a0 a1 h) := by
  refine z_enterI (by decide) rfl (Nat.le_of_ble_eq_true rfl) ?_
  intro p e s m args below meth c ls o Q cx hp hl hf hQ
  have hl : lv_has ls 2 [(0, .int (ii a0)), (1, .int (ii a1))] := hl
  unfold fX11_hasBit at hf
  refine lv_iload_n cx.1 cx.2.1 dX11_hasBit_0 rfl (lv_at hl 0 rfl) ?_
  refine lv_iload_n cx.1 cx.2.1 dX11_hasBit_1 rfl (lv_at hl 1 rfl) ?_
  refine z_ishr cx dX11_hasBit_2 ?_
  refine z_iconst cx dX11_hasBit_3 ?_
  refine z_iand cx dX11_hasBit_4 ?_
  refine z_jn hf (fun j => ∀ (y13_0 : Int) (h : HF) (H : Heap) (locs : List Loc) (ls : Array Slot), rng y13_0 → Hp g B s h H locs → lv_has ls 2 [] → j y13_0 h = some o → W p l e (rmn 0) s m args below meth c H locs 0 0 Q (F0 m 13 ls [.int (ii y13_0)])) ?_ (fun j13 hj13 hf => ?_)
  · intro y13_0 h H locs ls ry13_0 hp hl hf
    rw [hQ]; exact z_zret cx hp dX11_hasBit_13 hf
  refine z_if_eq cx (rng_and _ _) (tgt := 12) dX11_hasBit_5 (by decide) hf (fun _ hf => ?_) (fun _ hf => ?_)
  · refine z_iconst cx dX11_hasBit_12 ?_
    exact hj13 0 h _ _ ls (by decide) hp (lv_sub hl [] rfl) hf
  · refine z_iconst cx dX11_hasBit_8 ?_
    refine lv_goto (tgt := 13) cx.1 cx.2.1 dX11_hasBit_9 (by decide) ?_
    exact hj13 1 h _ _ ls (by decide) hp (lv_sub hl [] rfl) hf
theorem dX11_encode_0 : decode cX11_encode 0 = .ok (.iconst 0, 1) := by decide +kernel
theorem dX11_encode_1 : decode cX11_encode 1 = .ok (.istore_n 2, 1) := by decide +kernel
theorem dX11_encode_2 : decode cX11_encode 2 = .ok (.iconst 0, 1) := by decide +kernel
theorem dX11_encode_3 : decode cX11_encode 3 = .ok (.istore_n 3, 1) := by decide +kernel
theorem dX11_encode_4 : decode cX11_encode 4 = .ok (.iload_n 3, 1) := by decide +kernel
theorem dX11_encode_5 : decode cX11_encode 5 = .ok (.iload_n 1, 1) := by decide +kernel
theorem dX11_encode_6 : decode cX11_encode 6 = .ok (.if_icmp .ge 18, 3) := by decide +kernel
theorem dX11_encode_9 : decode cX11_encode 9 = .ok (.iload_n 2, 1) := by decide +kernel
theorem dX11_encode_10 : decode cX11_encode 10 = .ok (.bipush 7, 2) := by decide +kernel
theorem dX11_encode_12 : decode cX11_encode 12 = .ok (.imul, 1) := by decide +kernel
theorem dX11_encode_13 : decode cX11_encode 13 = .ok (.aload_n 0, 1) := by decide +kernel
theorem dX11_encode_14 : decode cX11_encode 14 = .ok (.iload_n 3, 1) := by decide +kernel
theorem dX11_encode_15 : decode cX11_encode 15 = .ok (.iaload, 1) := by decide +kernel
theorem dX11_encode_16 : decode cX11_encode 16 = .ok (.iadd, 1) := by decide +kernel
theorem dX11_encode_17 : decode cX11_encode 17 = .ok (.istore_n 2, 1) := by decide +kernel
theorem dX11_encode_18 : decode cX11_encode 18 = .ok (.iinc 3 1, 3) := by decide +kernel
theorem dX11_encode_21 : decode cX11_encode 21 = .ok (.goto (-17), 3) := by decide +kernel
theorem dX11_encode_24 : decode cX11_encode 24 = .ok (.iload_n 2, 1) := by decide +kernel
theorem dX11_encode_25 : decode cX11_encode 25 = .ok (.ireturn, 1) := by decide +kernel
def LX11_encode_4 (F : Nat) (u0 : Nat) (u1 : Int) (k24 : Int → HF → RO) : Nat → Int → Int → HF → RO
  | 0, _, _, _ => none
  | n + 1, v2, v3, h =>
    if v3 < u1 then (
      zrd h u0 v3 fun x1 =>
      zlet (wr ((wr (v2 * 7)) + x1)) fun x2 =>
      zlet (wr (v3 + 1)) fun x3 =>
      LX11_encode_4 F u0 u1 k24 n x2 x3 h
    ) else (
      k24 v2 h
    )
set_option maxHeartbeats 4000000 in
set_option maxRecDepth 100000 in
theorem wX11_encode_4 {p : Program} {l : Launch} {e : Env} {s : State} {m : MethodId} {args : Array Value} {below : List Frame} {meth : Method} {c : Code} {Q : State → Prop} {g : zG} {B : Nat} {o : Int × HF} (F : Nat) (cx : Cx p s m args meth c cX11_encode 4 RX11 (some .int) g B) (u0 : Nat) (ru0 : kt u0 = 0) (u1 : Int) (ru1 : rng u1) (k24 : Int → HF → RO) (hk24 : ∀ (x2 : Int) (h : HF) (H : Heap) (locs : List Loc) (ls : Array Slot), rng x2 → Hp g B s h H locs → lv_has ls 4 [(2, .int (ii x2))] → k24 x2 h = some o → W p l e (rmn 0) s m args below meth c H locs 0 0 Q (F0 m 24 ls [])) : ∀ (n : Nat) (v2 : Int) (v3 : Int) (h : HF) (H : Heap) (locs : List Loc) (ls : Array Slot), rng v2 → rng v3 → Hp g B s h H locs → lv_has ls 4 [(0, .ref (B + u0)), (1, .int (ii u1)), (2, .int (ii v2)), (3, .int (ii v3))] → LX11_encode_4 F u0 u1 k24 n v2 v3 h = some o → W p l e (rmn 0) s m args below meth c H locs 0 0 Q (F0 m 4 ls []) := by
  intro n
  induction n with
  | zero =>
    intro v2 v3 h H locs ls rv2 rv3 hp hl hf
    cases hf
  | succ n ih =>
    intro v2 v3 h H locs ls rv2 rv3 hp hl hf
    rw [LX11_encode_4] at hf
    refine lv_iload_n cx.1 cx.2.1 dX11_encode_4 rfl (lv_at hl 3 rfl) ?_
    refine lv_iload_n cx.1 cx.2.1 dX11_encode_5 rfl (lv_at hl 1 rfl) ?_
    refine z_icmp_ge cx rv3 ru1 (tgt := 24) dX11_encode_6 (by decide) hf (fun _ hf => ?_) (fun _ hf => ?_)
    · refine lv_iload_n cx.1 cx.2.1 dX11_encode_9 rfl (lv_at hl 2 rfl) ?_
      refine z_bipush cx (by decide) dX11_encode_10 ?_
      refine z_imul cx dX11_encode_12 ?_
      refine lv_aload_n cx.1 cx.2.1 dX11_encode_13 rfl (lv_at hl 0 rfl) ?_
      refine lv_iload_n cx.1 cx.2.1 dX11_encode_14 rfl (lv_at hl 3 rfl) ?_
      refine z_iald cx hp ru0 rv3 dX11_encode_15 hf (fun x1 rx1 hf => ?_)
      refine z_iadd cx dX11_encode_16 ?_
      refine z_let (rng_wr _) hf (fun x2 rx2 hf => ?_)
      refine lv_istore_n (lv' := [(2, .int (ii x2)), (0, .ref (B + u0)), (1, .int (ii u1)), (3, .int (ii v3))]) cx.1 cx.2.1 dX11_encode_17 rfl hl (by decide) rfl (fun ls hl => ?_)
      refine z_iinc cx (fun x3 => [(3, .int (ii x3)), (2, .int (ii x2)), (0, .ref (B + u0)), (1, .int (ii u1))]) dX11_encode_18 hl (k := 3) rfl (by decide) (fun _ => rfl) hf (fun x3 rx3 hf ls hl => ?_)
      refine lv_goto (tgt := 4) cx.1 cx.2.1 dX11_encode_21 (by decide) ?_
      exact ih x2 x3 h _ _ ls rx2 rx3 hp (lv_sub hl [2, 3, 1, 0] rfl) hf
    · exact hk24 v2 h _ _ ls rv2 hp (lv_sub hl [2] rfl) hf
def fX11_encode (F : Nat) (a0 : Nat) (a1 : Int) (h : HF) : RO :=
  zjn (fun (x24_2 : Int) (h : HF) => (
    some (x24_2, h)
  )) fun j24 =>
  LX11_encode_4 F a0 a1 j24 F 0 0 h
set_option maxHeartbeats 4000000 in
set_option maxRecDepth 100000 in
theorem mX11_encode (F : Nat) (l : Launch) (g : zG) (B : Nat) (h : HF) (a0 : Nat) (a1 : Int) (ra0 : kt a0 = 0) (ra1 : rng a1) : CTi l g B yX11_encode cX11_encode 4 (some .int) 0 [.ref (B + a0), .int (ii a1)] h (fX11_encode F a0 a1 h) := by
  refine z_enterI (by decide) rfl (Nat.le_of_ble_eq_true rfl) ?_
  intro p e s m args below meth c ls o Q cx hp hl hf hQ
  have hl : lv_has ls 4 [(0, .ref (B + a0)), (1, .int (ii a1))] := hl
  unfold fX11_encode at hf
  refine z_iconst cx dX11_encode_0 ?_
  refine lv_istore_n (lv' := [(2, .int (ii 0)), (0, .ref (B + a0)), (1, .int (ii a1))]) cx.1 cx.2.1 dX11_encode_1 rfl hl (by decide) rfl (fun ls hl => ?_)
  refine z_iconst cx dX11_encode_2 ?_
  refine lv_istore_n (lv' := [(3, .int (ii 0)), (2, .int (ii 0)), (0, .ref (B + a0)), (1, .int (ii a1))]) cx.1 cx.2.1 dX11_encode_3 rfl hl (by decide) rfl (fun ls hl => ?_)
  refine z_jn hf (fun j => ∀ (x24_2 : Int) (h : HF) (H : Heap) (locs : List Loc) (ls : Array Slot), rng x24_2 → Hp g B s h H locs → lv_has ls 4 [(2, .int (ii x24_2))] → j x24_2 h = some o → W p l e (rmn 0) s m args below meth c H locs 0 0 Q (F0 m 24 ls [])) ?_ (fun j24 hj24 hf => ?_)
  · intro x24_2 h H locs ls rx24_2 hp hl hf
    refine lv_iload_n cx.1 cx.2.1 dX11_encode_24 rfl (lv_at hl 0 rfl) ?_
    rw [hQ]; exact z_iret cx hp rx24_2 dX11_encode_25 hf
  exact wX11_encode_4 F cx a0 ra0 a1 ra1 j24 hj24 F 0 0 h _ _ ls (by decide) (by decide) hp (lv_sub hl [2, 3, 1, 0] rfl) hf
theorem dX11_isDrawer_0 : decode cX11_isDrawer 0 = .ok (.iload_n 0, 1) := by decide +kernel
theorem dX11_isDrawer_1 : decode cX11_isDrawer 1 = .ok (.ifCond .lt 13, 3) := by decide +kernel
theorem dX11_isDrawer_4 : decode cX11_isDrawer 4 = .ok (.iload_n 0, 1) := by decide +kernel
theorem dX11_isDrawer_5 : decode cX11_isDrawer 5 = .ok (.bipush 8, 2) := by decide +kernel
theorem dX11_isDrawer_7 : decode cX11_isDrawer 7 = .ok (.if_icmp .ge 7, 3) := by decide +kernel
theorem dX11_isDrawer_10 : decode cX11_isDrawer 10 = .ok (.iconst 1, 1) := by decide +kernel
theorem dX11_isDrawer_11 : decode cX11_isDrawer 11 = .ok (.goto 4, 3) := by decide +kernel
theorem dX11_isDrawer_14 : decode cX11_isDrawer 14 = .ok (.iconst 0, 1) := by decide +kernel
theorem dX11_isDrawer_15 : decode cX11_isDrawer 15 = .ok (.ireturn, 1) := by decide +kernel
def fX11_isDrawer (F : Nat) (a0 : Int) (h : HF) : RO :=
  zjn (fun (y15_0 : Int) (h : HF) => (
    zrz y15_0 h
  )) fun j15 =>
  zjn (fun  (h : HF) => (
    j15 0 h
  )) fun j14 =>
  if a0 < 0 then (
    j14  h
  ) else (
    if a0 < 8 then (
      j15 1 h
    ) else (
      j14  h
    )
  )
set_option maxHeartbeats 4000000 in
set_option maxRecDepth 100000 in
theorem mX11_isDrawer (F : Nat) (l : Launch) (g : zG) (B : Nat) (h : HF) (a0 : Int) (ra0 : rng a0) : CTi l g B yX11_isDrawer cX11_isDrawer 1 (some .boolean) 0 [.int (ii a0)] h (fX11_isDrawer F a0 h) := by
  refine z_enterI (by decide) rfl (Nat.le_of_ble_eq_true rfl) ?_
  intro p e s m args below meth c ls o Q cx hp hl hf hQ
  have hl : lv_has ls 1 [(0, .int (ii a0))] := hl
  unfold fX11_isDrawer at hf
  refine lv_iload_n cx.1 cx.2.1 dX11_isDrawer_0 rfl (lv_at hl 0 rfl) ?_
  refine z_jn hf (fun j => ∀ (y15_0 : Int) (h : HF) (H : Heap) (locs : List Loc) (ls : Array Slot), rng y15_0 → Hp g B s h H locs → lv_has ls 1 [] → j y15_0 h = some o → W p l e (rmn 0) s m args below meth c H locs 0 0 Q (F0 m 15 ls [.int (ii y15_0)])) ?_ (fun j15 hj15 hf => ?_)
  · intro y15_0 h H locs ls ry15_0 hp hl hf
    rw [hQ]; exact z_zret cx hp dX11_isDrawer_15 hf
  refine z_jn hf (fun j => ∀  (h : HF) (H : Heap) (locs : List Loc) (ls : Array Slot), Hp g B s h H locs → lv_has ls 1 [] → j  h = some o → W p l e (rmn 0) s m args below meth c H locs 0 0 Q (F0 m 14 ls [])) ?_ (fun j14 hj14 hf => ?_)
  · intro  h H locs ls  hp hl hf
    refine z_iconst cx dX11_isDrawer_14 ?_
    exact hj15 0 h _ _ ls (by decide) hp (lv_sub hl [] rfl) hf
  refine z_if_lt cx ra0 (tgt := 14) dX11_isDrawer_1 (by decide) hf (fun _ hf => ?_) (fun _ hf => ?_)
  · exact hj14  h _ _ ls  hp (lv_sub hl [] rfl) hf
  · refine lv_iload_n cx.1 cx.2.1 dX11_isDrawer_4 rfl (lv_at hl 0 rfl) ?_
    refine z_bipush cx (by decide) dX11_isDrawer_5 ?_
    refine z_icmp_ge cx ra0 (by decide) (tgt := 14) dX11_isDrawer_7 (by decide) hf (fun _ hf => ?_) (fun _ hf => ?_)
    · refine z_iconst cx dX11_isDrawer_10 ?_
      refine lv_goto (tgt := 15) cx.1 cx.2.1 dX11_isDrawer_11 (by decide) ?_
      exact hj15 1 h _ _ ls (by decide) hp (lv_sub hl [] rfl) hf
    · exact hj14  h _ _ ls  hp (lv_sub hl [] rfl) hf
theorem dX11_isList_0 : decode cX11_isList 0 = .ok (.iload_n 0, 1) := by decide +kernel
theorem dX11_isList_1 : decode cX11_isList 1 = .ok (.ifCond .lt 12, 3) := by decide +kernel
theorem dX11_isList_4 : decode cX11_isList 4 = .ok (.iload_n 0, 1) := by decide +kernel
theorem dX11_isList_5 : decode cX11_isList 5 = .ok (.iconst 4, 1) := by decide +kernel
theorem dX11_isList_6 : decode cX11_isList 6 = .ok (.if_icmp .ge 7, 3) := by decide +kernel
theorem dX11_isList_9 : decode cX11_isList 9 = .ok (.iconst 1, 1) := by decide +kernel
theorem dX11_isList_10 : decode cX11_isList 10 = .ok (.goto 4, 3) := by decide +kernel
theorem dX11_isList_13 : decode cX11_isList 13 = .ok (.iconst 0, 1) := by decide +kernel
theorem dX11_isList_14 : decode cX11_isList 14 = .ok (.ireturn, 1) := by decide +kernel
def fX11_isList (F : Nat) (a0 : Int) (h : HF) : RO :=
  zjn (fun (y14_0 : Int) (h : HF) => (
    zrz y14_0 h
  )) fun j14 =>
  zjn (fun  (h : HF) => (
    j14 0 h
  )) fun j13 =>
  if a0 < 0 then (
    j13  h
  ) else (
    if a0 < 4 then (
      j14 1 h
    ) else (
      j13  h
    )
  )
set_option maxHeartbeats 4000000 in
set_option maxRecDepth 100000 in
theorem mX11_isList (F : Nat) (l : Launch) (g : zG) (B : Nat) (h : HF) (a0 : Int) (ra0 : rng a0) : CTi l g B yX11_isList cX11_isList 1 (some .boolean) 0 [.int (ii a0)] h (fX11_isList F a0 h) := by
  refine z_enterI (by decide) rfl (Nat.le_of_ble_eq_true rfl) ?_
  intro p e s m args below meth c ls o Q cx hp hl hf hQ
  have hl : lv_has ls 1 [(0, .int (ii a0))] := hl
  unfold fX11_isList at hf
  refine lv_iload_n cx.1 cx.2.1 dX11_isList_0 rfl (lv_at hl 0 rfl) ?_
  refine z_jn hf (fun j => ∀ (y14_0 : Int) (h : HF) (H : Heap) (locs : List Loc) (ls : Array Slot), rng y14_0 → Hp g B s h H locs → lv_has ls 1 [] → j y14_0 h = some o → W p l e (rmn 0) s m args below meth c H locs 0 0 Q (F0 m 14 ls [.int (ii y14_0)])) ?_ (fun j14 hj14 hf => ?_)
  · intro y14_0 h H locs ls ry14_0 hp hl hf
    rw [hQ]; exact z_zret cx hp dX11_isList_14 hf
  refine z_jn hf (fun j => ∀  (h : HF) (H : Heap) (locs : List Loc) (ls : Array Slot), Hp g B s h H locs → lv_has ls 1 [] → j  h = some o → W p l e (rmn 0) s m args below meth c H locs 0 0 Q (F0 m 13 ls [])) ?_ (fun j13 hj13 hf => ?_)
  · intro  h H locs ls  hp hl hf
    refine z_iconst cx dX11_isList_13 ?_
    exact hj14 0 h _ _ ls (by decide) hp (lv_sub hl [] rfl) hf
  refine z_if_lt cx ra0 (tgt := 13) dX11_isList_1 (by decide) hf (fun _ hf => ?_) (fun _ hf => ?_)
  · exact hj13  h _ _ ls  hp (lv_sub hl [] rfl) hf
  · refine lv_iload_n cx.1 cx.2.1 dX11_isList_4 rfl (lv_at hl 0 rfl) ?_
    refine z_iconst cx dX11_isList_5 ?_
    refine z_icmp_ge cx ra0 (by decide) (tgt := 13) dX11_isList_6 (by decide) hf (fun _ hf => ?_) (fun _ hf => ?_)
    · refine z_iconst cx dX11_isList_9 ?_
      refine lv_goto (tgt := 14) cx.1 cx.2.1 dX11_isList_10 (by decide) ?_
      exact hj14 1 h _ _ ls (by decide) hp (lv_sub hl [] rfl) hf
    · exact hj13  h _ _ ls  hp (lv_sub hl [] rfl) hf
theorem dX11_isShape_0 : decode cX11_isShape 0 = .ok (.iload_n 0, 1) := by decide +kernel
theorem dX11_isShape_1 : decode cX11_isShape 1 = .ok (.iconst 1, 1) := by decide +kernel
theorem dX11_isShape_2 : decode cX11_isShape 2 = .ok (.if_icmp .lt 13, 3) := by decide +kernel
theorem dX11_isShape_5 : decode cX11_isShape 5 = .ok (.iload_n 0, 1) := by decide +kernel
theorem dX11_isShape_6 : decode cX11_isShape 6 = .ok (.bipush 7, 2) := by decide +kernel
theorem dX11_isShape_8 : decode cX11_isShape 8 = .ok (.if_icmp .gt 7, 3) := by decide +kernel
theorem dX11_isShape_11 : decode cX11_isShape 11 = .ok (.iload_n 1, 1) := by decide +kernel
theorem dX11_isShape_12 : decode cX11_isShape 12 = .ok (.ifCond .ge 5, 3) := by decide +kernel
theorem dX11_isShape_17 : decode cX11_isShape 17 = .ok (.iload_n 1, 1) := by decide +kernel
theorem dX11_isShape_18 : decode cX11_isShape 18 = .ok (.istore_n 2, 1) := by decide +kernel
theorem dX11_isShape_19 : decode cX11_isShape 19 = .ok (.iconst 0, 1) := by decide +kernel
theorem dX11_isShape_20 : decode cX11_isShape 20 = .ok (.istore_n 3, 1) := by decide +kernel
theorem dX11_isShape_21 : decode cX11_isShape 21 = .ok (.iload_n 3, 1) := by decide +kernel
theorem dX11_isShape_22 : decode cX11_isShape 22 = .ok (.iconst 4, 1) := by decide +kernel
theorem dX11_isShape_23 : decode cX11_isShape 23 = .ok (.if_icmp .ge 38, 3) := by decide +kernel
theorem dX11_isShape_26 : decode cX11_isShape 26 = .ok (.iload_n 2, 1) := by decide +kernel
theorem dX11_isShape_27 : decode cX11_isShape 27 = .ok (.ifCond .le 34, 3) := by decide +kernel
theorem dX11_isShape_30 : decode cX11_isShape 30 = .ok (.iload_n 2, 1) := by decide +kernel
theorem dX11_isShape_31 : decode cX11_isShape 31 = .ok (.bipush 10, 2) := by decide +kernel
theorem dX11_isShape_33 : decode cX11_isShape 33 = .ok (.irem, 1) := by decide +kernel
theorem dX11_isShape_34 : decode cX11_isShape 34 = .ok (.istore 4, 2) := by decide +kernel
theorem dX11_isShape_36 : decode cX11_isShape 36 = .ok (.iload 4, 2) := by decide +kernel
theorem dX11_isShape_38 : decode cX11_isShape 38 = .ok (.iconst 1, 1) := by decide +kernel
theorem dX11_isShape_39 : decode cX11_isShape 39 = .ok (.if_icmp .lt 9, 3) := by decide +kernel
theorem dX11_isShape_42 : decode cX11_isShape 42 = .ok (.iload 4, 2) := by decide +kernel
theorem dX11_isShape_44 : decode cX11_isShape 44 = .ok (.iconst 3, 1) := by decide +kernel
theorem dX11_isShape_45 : decode cX11_isShape 45 = .ok (.if_icmp .le 5, 3) := by decide +kernel
theorem dX11_isShape_50 : decode cX11_isShape 50 = .ok (.iload_n 2, 1) := by decide +kernel
theorem dX11_isShape_51 : decode cX11_isShape 51 = .ok (.bipush 10, 2) := by decide +kernel
theorem dX11_isShape_53 : decode cX11_isShape 53 = .ok (.idiv, 1) := by decide +kernel
theorem dX11_isShape_54 : decode cX11_isShape 54 = .ok (.istore_n 2, 1) := by decide +kernel
theorem dX11_isShape_55 : decode cX11_isShape 55 = .ok (.iinc 3 1, 3) := by decide +kernel
theorem dX11_isShape_58 : decode cX11_isShape 58 = .ok (.goto (-37), 3) := by decide +kernel
theorem dX11_isShape_48 : decode cX11_isShape 48 = .ok (.iconst 0, 1) := by decide +kernel
theorem dX11_isShape_49 : decode cX11_isShape 49 = .ok (.ireturn, 1) := by decide +kernel
theorem dX11_isShape_61 : decode cX11_isShape 61 = .ok (.iload_n 2, 1) := by decide +kernel
theorem dX11_isShape_62 : decode cX11_isShape 62 = .ok (.ifCond .ne 7, 3) := by decide +kernel
theorem dX11_isShape_65 : decode cX11_isShape 65 = .ok (.iconst 1, 1) := by decide +kernel
theorem dX11_isShape_66 : decode cX11_isShape 66 = .ok (.goto 4, 3) := by decide +kernel
theorem dX11_isShape_69 : decode cX11_isShape 69 = .ok (.iconst 0, 1) := by decide +kernel
theorem dX11_isShape_70 : decode cX11_isShape 70 = .ok (.ireturn, 1) := by decide +kernel
theorem dX11_isShape_15 : decode cX11_isShape 15 = .ok (.iconst 0, 1) := by decide +kernel
theorem dX11_isShape_16 : decode cX11_isShape 16 = .ok (.ireturn, 1) := by decide +kernel
def LX11_isShape_21 (F : Nat) (k61 : Int → HF → RO) (k48 : HF → RO) : Nat → Int → Int → HF → RO
  | 0, _, _, _ => none
  | n + 1, v2, v3, h =>
    if v3 < 4 then (
      if 0 < v2 then (
        zdv 10 <|
        zlet (wrem v2 10) fun x1 =>
        if x1 < 1 then (
          k48  h
        ) else (
          if 3 < x1 then (
            k48  h
          ) else (
            zdv 10 <|
            zlet (wdiv v2 10) fun x2 =>
            zlet (wr (v3 + 1)) fun x3 =>
            LX11_isShape_21 F k61 k48 n x2 x3 h
          )
        )
      ) else (
        k61 v2 h
      )
    ) else (
      k61 v2 h
    )
set_option maxHeartbeats 4000000 in
set_option maxRecDepth 100000 in
theorem wX11_isShape_21 {p : Program} {l : Launch} {e : Env} {s : State} {m : MethodId} {args : Array Value} {below : List Frame} {meth : Method} {c : Code} {Q : State → Prop} {g : zG} {B : Nat} {o : Int × HF} (F : Nat) (cx : Cx p s m args meth c cX11_isShape 5 RX11 (some .boolean) g B)  (k61 : Int → HF → RO) (hk61 : ∀ (x2 : Int) (h : HF) (H : Heap) (locs : List Loc) (ls : Array Slot), rng x2 → Hp g B s h H locs → lv_has ls 5 [(2, .int (ii x2))] → k61 x2 h = some o → W p l e (rmn 0) s m args below meth c H locs 0 0 Q (F0 m 61 ls [])) (k48 : HF → RO) (hk48 : ∀  (h : HF) (H : Heap) (locs : List Loc) (ls : Array Slot), Hp g B s h H locs → lv_has ls 5 [] → k48  h = some o → W p l e (rmn 0) s m args below meth c H locs 0 0 Q (F0 m 48 ls [])) : ∀ (n : Nat) (v2 : Int) (v3 : Int) (h : HF) (H : Heap) (locs : List Loc) (ls : Array Slot), rng v2 → rng v3 → Hp g B s h H locs → lv_has ls 5 [(2, .int (ii v2)), (3, .int (ii v3))] → LX11_isShape_21 F k61 k48 n v2 v3 h = some o → W p l e (rmn 0) s m args below meth c H locs 0 0 Q (F0 m 21 ls []) := by
  intro n
  induction n with
  | zero =>
    intro v2 v3 h H locs ls rv2 rv3 hp hl hf
    cases hf
  | succ n ih =>
    intro v2 v3 h H locs ls rv2 rv3 hp hl hf
    rw [LX11_isShape_21] at hf
    refine lv_iload_n cx.1 cx.2.1 dX11_isShape_21 rfl (lv_at hl 1 rfl) ?_
    refine z_iconst cx dX11_isShape_22 ?_
    refine z_icmp_ge cx rv3 (by decide) (tgt := 61) dX11_isShape_23 (by decide) hf (fun _ hf => ?_) (fun _ hf => ?_)
    · refine lv_iload_n cx.1 cx.2.1 dX11_isShape_26 rfl (lv_at hl 0 rfl) ?_
      refine z_if_le cx rv2 (tgt := 61) dX11_isShape_27 (by decide) hf (fun _ hf => ?_) (fun _ hf => ?_)
      · refine lv_iload_n cx.1 cx.2.1 dX11_isShape_30 rfl (lv_at hl 0 rfl) ?_
        refine z_bipush cx (by decide) dX11_isShape_31 ?_
        refine z_irem cx rv2 (by decide) dX11_isShape_33 hf (fun hf => ?_)
        refine z_let (rng_rem _ _) hf (fun x1 rx1 hf => ?_)
        refine lv_istore (lv' := [(4, .int (ii x1)), (2, .int (ii v2)), (3, .int (ii v3))]) cx.1 cx.2.1 dX11_isShape_34 hl (by decide) rfl (fun ls hl => ?_)
        refine lv_iload cx.1 cx.2.1 dX11_isShape_36 (lv_at hl 0 rfl) ?_
        refine z_iconst cx dX11_isShape_38 ?_
        refine z_icmp_lt cx rx1 (by decide) (tgt := 48) dX11_isShape_39 (by decide) hf (fun _ hf => ?_) (fun _ hf => ?_)
        · exact hk48  h _ _ ls  hp (lv_sub hl [] rfl) hf
        · refine lv_iload cx.1 cx.2.1 dX11_isShape_42 (lv_at hl 0 rfl) ?_
          refine z_iconst cx dX11_isShape_44 ?_
          refine z_icmp_le cx rx1 (by decide) (tgt := 50) dX11_isShape_45 (by decide) hf (fun _ hf => ?_) (fun _ hf => ?_)
          · exact hk48  h _ _ ls  hp (lv_sub hl [] rfl) hf
          · refine lv_iload_n cx.1 cx.2.1 dX11_isShape_50 rfl (lv_at hl 1 rfl) ?_
            refine z_bipush cx (by decide) dX11_isShape_51 ?_
            refine z_idiv cx rv2 (by decide) dX11_isShape_53 hf (fun hf => ?_)
            refine z_let (rng_div _ _) hf (fun x2 rx2 hf => ?_)
            refine lv_istore_n (lv' := [(2, .int (ii x2)), (4, .int (ii x1)), (3, .int (ii v3))]) cx.1 cx.2.1 dX11_isShape_54 rfl hl (by decide) rfl (fun ls hl => ?_)
            refine z_iinc cx (fun x3 => [(3, .int (ii x3)), (2, .int (ii x2)), (4, .int (ii x1))]) dX11_isShape_55 hl (k := 2) rfl (by decide) (fun _ => rfl) hf (fun x3 rx3 hf ls hl => ?_)
            refine lv_goto (tgt := 21) cx.1 cx.2.1 dX11_isShape_58 (by decide) ?_
            exact ih x2 x3 h _ _ ls rx2 rx3 hp (lv_sub hl [1, 0] rfl) hf
      · exact hk61 v2 h _ _ ls rv2 hp (lv_sub hl [0] rfl) hf
    · exact hk61 v2 h _ _ ls rv2 hp (lv_sub hl [0] rfl) hf
def fX11_isShape (F : Nat) (a0 : Int) (a1 : Int) (h : HF) : RO :=
  zjn (fun  (h : HF) => (
    zrz 0 h
  )) fun j15 =>
  if a0 < 1 then (
    j15  h
  ) else (
    if 7 < a0 then (
      j15  h
    ) else (
      if a1 < 0 then (
        j15  h
      ) else (
        zjn (fun (x61_2 : Int) (h : HF) => (
          zjn (fun (y70_0 : Int) (h : HF) => (
            zrz y70_0 h
          )) fun j70 =>
          if x61_2 = 0 then (
            j70 1 h
          ) else (
            j70 0 h
          )
        )) fun j61 =>
        zjn (fun  (h : HF) => (
          zrz 0 h
        )) fun j48 =>
        LX11_isShape_21 F  j61 j48 F a1 0 h
      )
    )
  )
set_option maxHeartbeats 4000000 in
set_option maxRecDepth 100000 in
theorem mX11_isShape (F : Nat) (l : Launch) (g : zG) (B : Nat) (h : HF) (a0 : Int) (a1 : Int) (ra0 : rng a0) (ra1 : rng a1) : CTi l g B yX11_isShape cX11_isShape 5 (some .boolean) 0 [.int (ii a0), .int (ii a1)] h (fX11_isShape F a0 a1 h) := by
  refine z_enterI (by decide) rfl (Nat.le_of_ble_eq_true rfl) ?_
  intro p e s m args below meth c ls o Q cx hp hl hf hQ
  have hl : lv_has ls 5 [(0, .int (ii a0)), (1, .int (ii a1))] := hl
  unfold fX11_isShape at hf
  refine lv_iload_n cx.1 cx.2.1 dX11_isShape_0 rfl (lv_at hl 0 rfl) ?_
  refine z_iconst cx dX11_isShape_1 ?_
  refine z_jn hf (fun j => ∀  (h : HF) (H : Heap) (locs : List Loc) (ls : Array Slot), Hp g B s h H locs → lv_has ls 5 [] → j  h = some o → W p l e (rmn 0) s m args below meth c H locs 0 0 Q (F0 m 15 ls [])) ?_ (fun j15 hj15 hf => ?_)
  · intro  h H locs ls  hp hl hf
    refine z_iconst cx dX11_isShape_15 ?_
    rw [hQ]; exact z_zret cx hp dX11_isShape_16 hf
  refine z_icmp_lt cx ra0 (by decide) (tgt := 15) dX11_isShape_2 (by decide) hf (fun _ hf => ?_) (fun _ hf => ?_)
  · exact hj15  h _ _ ls  hp (lv_sub hl [] rfl) hf
  · refine lv_iload_n cx.1 cx.2.1 dX11_isShape_5 rfl (lv_at hl 0 rfl) ?_
    refine z_bipush cx (by decide) dX11_isShape_6 ?_
    refine z_icmp_gt cx ra0 (by decide) (tgt := 15) dX11_isShape_8 (by decide) hf (fun _ hf => ?_) (fun _ hf => ?_)
    · exact hj15  h _ _ ls  hp (lv_sub hl [] rfl) hf
    · refine lv_iload_n cx.1 cx.2.1 dX11_isShape_11 rfl (lv_at hl 1 rfl) ?_
      refine z_if_ge cx ra1 (tgt := 17) dX11_isShape_12 (by decide) hf (fun _ hf => ?_) (fun _ hf => ?_)
      · exact hj15  h _ _ ls  hp (lv_sub hl [] rfl) hf
      · refine lv_iload_n cx.1 cx.2.1 dX11_isShape_17 rfl (lv_at hl 1 rfl) ?_
        refine lv_istore_n (lv' := [(2, .int (ii a1)), (0, .int (ii a0)), (1, .int (ii a1))]) cx.1 cx.2.1 dX11_isShape_18 rfl hl (by decide) rfl (fun ls hl => ?_)
        refine z_iconst cx dX11_isShape_19 ?_
        refine lv_istore_n (lv' := [(3, .int (ii 0)), (2, .int (ii a1)), (0, .int (ii a0)), (1, .int (ii a1))]) cx.1 cx.2.1 dX11_isShape_20 rfl hl (by decide) rfl (fun ls hl => ?_)
        refine z_jn hf (fun j => ∀ (x61_2 : Int) (h : HF) (H : Heap) (locs : List Loc) (ls : Array Slot), rng x61_2 → Hp g B s h H locs → lv_has ls 5 [(2, .int (ii x61_2))] → j x61_2 h = some o → W p l e (rmn 0) s m args below meth c H locs 0 0 Q (F0 m 61 ls [])) ?_ (fun j61 hj61 hf => ?_)
        · intro x61_2 h H locs ls rx61_2 hp hl hf
          refine lv_iload_n cx.1 cx.2.1 dX11_isShape_61 rfl (lv_at hl 0 rfl) ?_
          refine z_jn hf (fun j => ∀ (y70_0 : Int) (h : HF) (H : Heap) (locs : List Loc) (ls : Array Slot), rng y70_0 → Hp g B s h H locs → lv_has ls 5 [] → j y70_0 h = some o → W p l e (rmn 0) s m args below meth c H locs 0 0 Q (F0 m 70 ls [.int (ii y70_0)])) ?_ (fun j70 hj70 hf => ?_)
          · intro y70_0 h H locs ls ry70_0 hp hl hf
            rw [hQ]; exact z_zret cx hp dX11_isShape_70 hf
          refine z_if_ne cx rx61_2 (tgt := 69) dX11_isShape_62 (by decide) hf (fun _ hf => ?_) (fun _ hf => ?_)
          · refine z_iconst cx dX11_isShape_65 ?_
            refine lv_goto (tgt := 70) cx.1 cx.2.1 dX11_isShape_66 (by decide) ?_
            exact hj70 1 h _ _ ls (by decide) hp (lv_sub hl [] rfl) hf
          · refine z_iconst cx dX11_isShape_69 ?_
            exact hj70 0 h _ _ ls (by decide) hp (lv_sub hl [] rfl) hf
        refine z_jn hf (fun j => ∀  (h : HF) (H : Heap) (locs : List Loc) (ls : Array Slot), Hp g B s h H locs → lv_has ls 5 [] → j  h = some o → W p l e (rmn 0) s m args below meth c H locs 0 0 Q (F0 m 48 ls [])) ?_ (fun j48 hj48 hf => ?_)
        · intro  h H locs ls  hp hl hf
          refine z_iconst cx dX11_isShape_48 ?_
          rw [hQ]; exact z_zret cx hp dX11_isShape_49 hf
        exact wX11_isShape_21 F cx  j61 hj61 j48 hj48 F a1 0 h _ _ ls ra1 (by decide) hp (lv_sub hl [1, 0] rfl) hf
theorem dX11_refuseDrawer_0 : decode cX11_refuseDrawer 0 = .ok (.iload_n 1, 1) := by decide +kernel
theorem dX11_refuseDrawer_1 : decode cX11_refuseDrawer 1 = .ok (.invokestatic 123, 3) := by decide +kernel
theorem dX11_refuseDrawer_4 : decode cX11_refuseDrawer 4 = .ok (.ifCond .ne 6, 3) := by decide +kernel
theorem dX11_refuseDrawer_7 : decode cX11_refuseDrawer 7 = .ok (.bipush (-3), 2) := by decide +kernel
theorem dX11_refuseDrawer_9 : decode cX11_refuseDrawer 9 = .ok (.ireturn, 1) := by decide +kernel
theorem dX11_refuseDrawer_10 : decode cX11_refuseDrawer 10 = .ok (.aload_n 0, 1) := by decide +kernel
theorem dX11_refuseDrawer_11 : decode cX11_refuseDrawer 11 = .ok (.getfield 23, 3) := by decide +kernel
theorem dX11_refuseDrawer_14 : decode cX11_refuseDrawer 14 = .ok (.iload_n 1, 1) := by decide +kernel
theorem dX11_refuseDrawer_15 : decode cX11_refuseDrawer 15 = .ok (.aaload, 1) := by decide +kernel
theorem dX11_refuseDrawer_16 : decode cX11_refuseDrawer 16 = .ok (.invokevirtual 360, 3) := by decide +kernel
theorem dX11_refuseDrawer_19 : decode cX11_refuseDrawer 19 = .ok (.ifCond .eq 7, 3) := by decide +kernel
theorem dX11_refuseDrawer_22 : decode cX11_refuseDrawer 22 = .ok (.iconst 0, 1) := by decide +kernel
theorem dX11_refuseDrawer_23 : decode cX11_refuseDrawer 23 = .ok (.goto 5, 3) := by decide +kernel
theorem dX11_refuseDrawer_26 : decode cX11_refuseDrawer 26 = .ok (.bipush (-2), 2) := by decide +kernel
theorem dX11_refuseDrawer_28 : decode cX11_refuseDrawer 28 = .ok (.ireturn, 1) := by decide +kernel
def fX11_refuseDrawer (F : Nat) (a0 : Nat) (a1 : Int) (h : HF) : RO :=
  zbd (fX11_isDrawer F a1 h) fun r1 h =>
  if r1 = 0 then (
    some ((-3), h)
  ) else (
    zrs (a0 + 5) a1 fun x2 =>
    zbd (fX0_isHeld F x2 h) fun r3 h =>
    zjn (fun (y28_0 : Int) (h : HF) => (
      some (y28_0, h)
    )) fun j28 =>
    if r3 = 0 then (
      j28 (-2) h
    ) else (
      j28 0 h
    )
  )
set_option maxHeartbeats 4000000 in
set_option maxRecDepth 100000 in
theorem mX11_refuseDrawer (F : Nat) (l : Launch) (g : zG) (B : Nat) (h : HF) (a0 : Nat) (a1 : Int) (ra0 : kt a0 = 14) (ra1 : rng a1) : CTi l g B yX11_refuseDrawer cX11_refuseDrawer 2 (some .int) 1 [.ref (B + a0), .int (ii a1)] h (fX11_refuseDrawer F a0 a1 h) := by
  refine z_enterI (by decide) rfl (Nat.le_of_ble_eq_true rfl) ?_
  intro p e s m args below meth c ls o Q cx hp hl hf hQ
  have hl : lv_has ls 2 [(0, .ref (B + a0)), (1, .int (ii a1))] := hl
  unfold fX11_refuseDrawer at hf
  refine lv_iload_n cx.1 cx.2.1 dX11_refuseDrawer_0 rfl (lv_at hl 1 rfl) ?_
  refine z_ci cx hp (fun o' hx => zrunS (n := 1) (As := [.int (ii a1)]) (rest := []) cx hp (mX11_isDrawer F l g B h a1 ra1 o' hx) sw_X11_isDrawer ml_X11_123 (by decide) rfl hl.1 rfl (Nat.le_of_ble_eq_true rfl) dX11_refuseDrawer_1) hf (fun r1 h H locs rr1 hp hf => ?_)
  refine z_if_ne cx rr1 (tgt := 10) dX11_refuseDrawer_4 (by decide) hf (fun _ hf => ?_) (fun _ hf => ?_)
  · refine z_bipush cx (by decide) dX11_refuseDrawer_7 ?_
    rw [hQ]; exact z_iret cx hp (by decide) dX11_refuseDrawer_9 hf
  · refine lv_aload_n cx.1 cx.2.1 dX11_refuseDrawer_10 rfl (lv_at hl 0 rfl) ?_
    refine z_gets cx hp (T := TX11) 11 2 (a0 + 5) rfl zin_11 (by decide) (by decide) ra0 rfl fl_X11_23 dX11_refuseDrawer_11 ?_
    refine lv_iload_n cx.1 cx.2.1 dX11_refuseDrawer_14 rfl (lv_at hl 1 rfl) ?_
    refine z_aald1 cx hp (zs_11_2 a0 (kt_lt ra0 (by decide)) ra0) ra1 dX11_refuseDrawer_15 hf (fun x2 rx2 hf => ?_)
    refine z_ci cx hp (fun o' hx => zrunV (n := 1) (As := []) (rest := []) cx hp (mX0_isHeld F l g B h x2 rx2 o' hx) 0 rx2 (by decide) rfl vw_X0_isHeld ml_X11_360 (by decide) rfl hl.1 rfl (Nat.le_of_ble_eq_true rfl) dX11_refuseDrawer_16) hf (fun r3 h H locs rr3 hp hf => ?_)
    refine z_jn hf (fun j => ∀ (y28_0 : Int) (h : HF) (H : Heap) (locs : List Loc) (ls : Array Slot), rng y28_0 → Hp g B s h H locs → lv_has ls 2 [] → j y28_0 h = some o → W p l e (rmn 1) s m args below meth c H locs 0 0 Q (F0 m 28 ls [.int (ii y28_0)])) ?_ (fun j28 hj28 hf => ?_)
    · intro y28_0 h H locs ls ry28_0 hp hl hf
      rw [hQ]; exact z_iret cx hp ry28_0 dX11_refuseDrawer_28 hf
    refine z_if_eq cx rr3 (tgt := 26) dX11_refuseDrawer_19 (by decide) hf (fun _ hf => ?_) (fun _ hf => ?_)
    · refine z_bipush cx (by decide) dX11_refuseDrawer_26 ?_
      exact hj28 (-2) h _ _ ls (by decide) hp (lv_sub hl [] rfl) hf
    · refine z_iconst cx dX11_refuseDrawer_22 ?_
      refine lv_goto (tgt := 28) cx.1 cx.2.1 dX11_refuseDrawer_23 (by decide) ?_
      exact hj28 0 h _ _ ls (by decide) hp (lv_sub hl [] rfl) hf
theorem dX11_refuseSource_0 : decode cX11_refuseSource 0 = .ok (.iload_n 2, 1) := by decide +kernel
theorem dX11_refuseSource_1 : decode cX11_refuseSource 1 = .ok (.invokestatic 123, 3) := by decide +kernel
theorem dX11_refuseSource_4 : decode cX11_refuseSource 4 = .ok (.ifCond .eq 11, 3) := by decide +kernel
theorem dX11_refuseSource_7 : decode cX11_refuseSource 7 = .ok (.aload_n 0, 1) := by decide +kernel
theorem dX11_refuseSource_8 : decode cX11_refuseSource 8 = .ok (.iload_n 1, 1) := by decide +kernel
theorem dX11_refuseSource_9 : decode cX11_refuseSource 9 = .ok (.invokevirtual 175, 3) := by decide +kernel
theorem dX11_refuseSource_12 : decode cX11_refuseSource 12 = .ok (.goto 5, 3) := by decide +kernel
theorem dX11_refuseSource_15 : decode cX11_refuseSource 15 = .ok (.bipush (-3), 2) := by decide +kernel
theorem dX11_refuseSource_17 : decode cX11_refuseSource 17 = .ok (.ireturn, 1) := by decide +kernel
def fX11_refuseSource (F : Nat) (a0 : Nat) (a1 : Int) (a2 : Int) (h : HF) : RO :=
  zbd (fX11_isDrawer F a2 h) fun r1 h =>
  zjn (fun (y17_0 : Int) (h : HF) => (
    some (y17_0, h)
  )) fun j17 =>
  if r1 = 0 then (
    j17 (-3) h
  ) else (
    zbd (fX11_refuseDrawer F a0 a1 h) fun r2 h =>
    j17 r2 h
  )
set_option maxHeartbeats 4000000 in
set_option maxRecDepth 100000 in
theorem mX11_refuseSource (F : Nat) (l : Launch) (g : zG) (B : Nat) (h : HF) (a0 : Nat) (a1 : Int) (a2 : Int) (ra0 : kt a0 = 14) (ra1 : rng a1) (ra2 : rng a2) : CTi l g B yX11_refuseSource cX11_refuseSource 3 (some .int) 2 [.ref (B + a0), .int (ii a1), .int (ii a2)] h (fX11_refuseSource F a0 a1 a2 h) := by
  refine z_enterI (by decide) rfl (Nat.le_of_ble_eq_true rfl) ?_
  intro p e s m args below meth c ls o Q cx hp hl hf hQ
  have hl : lv_has ls 3 [(0, .ref (B + a0)), (1, .int (ii a1)), (2, .int (ii a2))] := hl
  unfold fX11_refuseSource at hf
  refine lv_iload_n cx.1 cx.2.1 dX11_refuseSource_0 rfl (lv_at hl 2 rfl) ?_
  refine z_ci cx hp (fun o' hx => zrunS (n := 2) (As := [.int (ii a2)]) (rest := []) cx hp (mX11_isDrawer F l g B h a2 ra2 o' hx) sw_X11_isDrawer ml_X11_123 (by decide) rfl hl.1 rfl (Nat.le_of_ble_eq_true rfl) dX11_refuseSource_1) hf (fun r1 h H locs rr1 hp hf => ?_)
  refine z_jn hf (fun j => ∀ (y17_0 : Int) (h : HF) (H : Heap) (locs : List Loc) (ls : Array Slot), rng y17_0 → Hp g B s h H locs → lv_has ls 3 [] → j y17_0 h = some o → W p l e (rmn 2) s m args below meth c H locs 0 0 Q (F0 m 17 ls [.int (ii y17_0)])) ?_ (fun j17 hj17 hf => ?_)
  · intro y17_0 h H locs ls ry17_0 hp hl hf
    rw [hQ]; exact z_iret cx hp ry17_0 dX11_refuseSource_17 hf
  refine z_if_eq cx rr1 (tgt := 15) dX11_refuseSource_4 (by decide) hf (fun _ hf => ?_) (fun _ hf => ?_)
  · refine z_bipush cx (by decide) dX11_refuseSource_15 ?_
    exact hj17 (-3) h _ _ ls (by decide) hp (lv_sub hl [] rfl) hf
  · refine lv_aload_n cx.1 cx.2.1 dX11_refuseSource_7 rfl (lv_at hl 0 rfl) ?_
    refine lv_iload_n cx.1 cx.2.1 dX11_refuseSource_8 rfl (lv_at hl 1 rfl) ?_
    refine z_ci cx hp (fun o' hx => zrunV (n := 2) (As := [.int (ii a1)]) (rest := []) cx hp (mX11_refuseDrawer F l g B h a0 a1 ra0 ra1 o' hx) 11 ra0 (by decide) rfl vw_X11_refuseDrawer ml_X11_175 (by decide) rfl hl.1 rfl (Nat.le_of_ble_eq_true rfl) dX11_refuseSource_9) hf (fun r2 h H locs rr2 hp hf => ?_)
    refine lv_goto (tgt := 17) cx.1 cx.2.1 dX11_refuseSource_12 (by decide) ?_
    exact hj17 r2 h _ _ ls rr2 hp (lv_sub hl [] rfl) hf
theorem dX11_refuseOperation_0 : decode cX11_refuseOperation 0 = .ok (.aload_n 0, 1) := by decide +kernel
theorem dX11_refuseOperation_1 : decode cX11_refuseOperation 1 = .ok (.iload_n 1, 1) := by decide +kernel
theorem dX11_refuseOperation_2 : decode cX11_refuseOperation 2 = .ok (.invokevirtual 175, 3) := by decide +kernel
theorem dX11_refuseOperation_5 : decode cX11_refuseOperation 5 = .ok (.istore_n 3, 1) := by decide +kernel
theorem dX11_refuseOperation_6 : decode cX11_refuseOperation 6 = .ok (.iload_n 3, 1) := by decide +kernel
theorem dX11_refuseOperation_7 : decode cX11_refuseOperation 7 = .ok (.ifCond .eq 5, 3) := by decide +kernel
theorem dX11_refuseOperation_10 : decode cX11_refuseOperation 10 = .ok (.iload_n 3, 1) := by decide +kernel
theorem dX11_refuseOperation_11 : decode cX11_refuseOperation 11 = .ok (.ireturn, 1) := by decide +kernel
theorem dX11_refuseOperation_12 : decode cX11_refuseOperation 12 = .ok (.iload_n 2, 1) := by decide +kernel
theorem dX11_refuseOperation_13 : decode cX11_refuseOperation 13 = .ok (.ifCond .lt 16, 3) := by decide +kernel
theorem dX11_refuseOperation_16 : decode cX11_refuseOperation 16 = .ok (.iload_n 2, 1) := by decide +kernel
theorem dX11_refuseOperation_17 : decode cX11_refuseOperation 17 = .ok (.aload_n 0, 1) := by decide +kernel
theorem dX11_refuseOperation_18 : decode cX11_refuseOperation 18 = .ok (.getfield 23, 3) := by decide +kernel
theorem dX11_refuseOperation_21 : decode cX11_refuseOperation 21 = .ok (.iload_n 1, 1) := by decide +kernel
theorem dX11_refuseOperation_22 : decode cX11_refuseOperation 22 = .ok (.aaload, 1) := by decide +kernel
theorem dX11_refuseOperation_23 : decode cX11_refuseOperation 23 = .ok (.getfield 371, 3) := by decide +kernel
theorem dX11_refuseOperation_26 : decode cX11_refuseOperation 26 = .ok (.if_icmp .lt 8, 3) := by decide +kernel
theorem dX11_refuseOperation_34 : decode cX11_refuseOperation 34 = .ok (.iconst 0, 1) := by decide +kernel
theorem dX11_refuseOperation_29 : decode cX11_refuseOperation 29 = .ok (.bipush (-3), 2) := by decide +kernel
theorem dX11_refuseOperation_31 : decode cX11_refuseOperation 31 = .ok (.goto 4, 3) := by decide +kernel
theorem dX11_refuseOperation_35 : decode cX11_refuseOperation 35 = .ok (.ireturn, 1) := by decide +kernel
def fX11_refuseOperation (F : Nat) (a0 : Nat) (a1 : Int) (a2 : Int) (h : HF) : RO :=
  zbd (fX11_refuseDrawer F a0 a1 h) fun r1 h =>
  if r1 = 0 then (
    zjn (fun (y35_0 : Int) (h : HF) => (
      some (y35_0, h)
    )) fun j35 =>
    zjn (fun  (h : HF) => (
      j35 (-3) h
    )) fun j29 =>
    if a2 < 0 then (
      j29  h
    ) else (
      zrs (a0 + 5) a1 fun x2 =>
      zgf h x2 1 fun x3 =>
      if a2 < x3 then (
        j35 0 h
      ) else (
        j29  h
      )
    )
  ) else (
    some (r1, h)
  )
set_option maxHeartbeats 4000000 in
set_option maxRecDepth 100000 in
theorem mX11_refuseOperation (F : Nat) (l : Launch) (g : zG) (B : Nat) (h : HF) (a0 : Nat) (a1 : Int) (a2 : Int) (ra0 : kt a0 = 14) (ra1 : rng a1) (ra2 : rng a2) : CTi l g B yX11_refuseOperation cX11_refuseOperation 4 (some .int) 2 [.ref (B + a0), .int (ii a1), .int (ii a2)] h (fX11_refuseOperation F a0 a1 a2 h) := by
  refine z_enterI (by decide) rfl (Nat.le_of_ble_eq_true rfl) ?_
  intro p e s m args below meth c ls o Q cx hp hl hf hQ
  have hl : lv_has ls 4 [(0, .ref (B + a0)), (1, .int (ii a1)), (2, .int (ii a2))] := hl
  unfold fX11_refuseOperation at hf
  refine lv_aload_n cx.1 cx.2.1 dX11_refuseOperation_0 rfl (lv_at hl 0 rfl) ?_
  refine lv_iload_n cx.1 cx.2.1 dX11_refuseOperation_1 rfl (lv_at hl 1 rfl) ?_
  refine z_ci cx hp (fun o' hx => zrunV (n := 2) (As := [.int (ii a1)]) (rest := []) cx hp (mX11_refuseDrawer F l g B h a0 a1 ra0 ra1 o' hx) 11 ra0 (by decide) rfl vw_X11_refuseDrawer ml_X11_175 (by decide) rfl hl.1 rfl (Nat.le_of_ble_eq_true rfl) dX11_refuseOperation_2) hf (fun r1 h H locs rr1 hp hf => ?_)
  refine lv_istore_n (lv' := [(3, .int (ii r1)), (0, .ref (B + a0)), (1, .int (ii a1)), (2, .int (ii a2))]) cx.1 cx.2.1 dX11_refuseOperation_5 rfl hl (by decide) rfl (fun ls hl => ?_)
  refine lv_iload_n cx.1 cx.2.1 dX11_refuseOperation_6 rfl (lv_at hl 0 rfl) ?_
  refine z_if_eq cx rr1 (tgt := 12) dX11_refuseOperation_7 (by decide) hf (fun _ hf => ?_) (fun _ hf => ?_)
  · refine lv_iload_n cx.1 cx.2.1 dX11_refuseOperation_12 rfl (lv_at hl 3 rfl) ?_
    refine z_jn hf (fun j => ∀ (y35_0 : Int) (h : HF) (H : Heap) (locs : List Loc) (ls : Array Slot), rng y35_0 → Hp g B s h H locs → lv_has ls 4 [] → j y35_0 h = some o → W p l e (rmn 2) s m args below meth c H locs 0 0 Q (F0 m 35 ls [.int (ii y35_0)])) ?_ (fun j35 hj35 hf => ?_)
    · intro y35_0 h H locs ls ry35_0 hp hl hf
      rw [hQ]; exact z_iret cx hp ry35_0 dX11_refuseOperation_35 hf
    refine z_jn hf (fun j => ∀  (h : HF) (H : Heap) (locs : List Loc) (ls : Array Slot), Hp g B s h H locs → lv_has ls 4 [] → j  h = some o → W p l e (rmn 2) s m args below meth c H locs 0 0 Q (F0 m 29 ls [])) ?_ (fun j29 hj29 hf => ?_)
    · intro  h H locs ls  hp hl hf
      refine z_bipush cx (by decide) dX11_refuseOperation_29 ?_
      refine lv_goto (tgt := 35) cx.1 cx.2.1 dX11_refuseOperation_31 (by decide) ?_
      exact hj35 (-3) h _ _ ls (by decide) hp (lv_sub hl [] rfl) hf
    refine z_if_lt cx ra2 (tgt := 29) dX11_refuseOperation_13 (by decide) hf (fun _ hf => ?_) (fun _ hf => ?_)
    · exact hj29  h _ _ ls  hp (lv_sub hl [] rfl) hf
    · refine lv_iload_n cx.1 cx.2.1 dX11_refuseOperation_16 rfl (lv_at hl 3 rfl) ?_
      refine lv_aload_n cx.1 cx.2.1 dX11_refuseOperation_17 rfl (lv_at hl 1 rfl) ?_
      refine z_gets cx hp (T := TX11) 11 2 (a0 + 5) rfl zin_11 (by decide) (by decide) ra0 rfl fl_X11_23 dX11_refuseOperation_18 ?_
      refine lv_iload_n cx.1 cx.2.1 dX11_refuseOperation_21 rfl (lv_at hl 2 rfl) ?_
      refine z_aald1 cx hp (zs_11_2 a0 (kt_lt ra0 (by decide)) ra0) ra1 dX11_refuseOperation_22 hf (fun x2 rx2 hf => ?_)
      refine z_geti cx hp (T := TX0) 0 1 rfl zin_0 (by decide) (by decide) rx2 rfl fl_X11_371 dX11_refuseOperation_23 hf (fun x3 rx3 hf => ?_)
      refine z_icmp_lt cx ra2 rx3 (tgt := 34) dX11_refuseOperation_26 (by decide) hf (fun _ hf => ?_) (fun _ hf => ?_)
      · refine z_iconst cx dX11_refuseOperation_34 ?_
        exact hj35 0 h _ _ ls (by decide) hp (lv_sub hl [] rfl) hf
      · exact hj29  h _ _ ls  hp (lv_sub hl [] rfl) hf
  · refine lv_iload_n cx.1 cx.2.1 dX11_refuseOperation_10 rfl (lv_at hl 0 rfl) ?_
    rw [hQ]; exact z_iret cx hp rr1 dX11_refuseOperation_11 hf
theorem dX11_refuseBinary_0 : decode cX11_refuseBinary 0 = .ok (.aload_n 0, 1) := by decide +kernel
theorem dX11_refuseBinary_1 : decode cX11_refuseBinary 1 = .ok (.iload_n 1, 1) := by decide +kernel
theorem dX11_refuseBinary_2 : decode cX11_refuseBinary 2 = .ok (.iload_n 2, 1) := by decide +kernel
theorem dX11_refuseBinary_3 : decode cX11_refuseBinary 3 = .ok (.invokevirtual 141, 3) := by decide +kernel
theorem dX11_refuseBinary_6 : decode cX11_refuseBinary 6 = .ok (.istore_n 3, 1) := by decide +kernel
theorem dX11_refuseBinary_7 : decode cX11_refuseBinary 7 = .ok (.iload_n 3, 1) := by decide +kernel
theorem dX11_refuseBinary_8 : decode cX11_refuseBinary 8 = .ok (.ifCond .eq 5, 3) := by decide +kernel
theorem dX11_refuseBinary_11 : decode cX11_refuseBinary 11 = .ok (.iload_n 3, 1) := by decide +kernel
theorem dX11_refuseBinary_12 : decode cX11_refuseBinary 12 = .ok (.ireturn, 1) := by decide +kernel
theorem dX11_refuseBinary_13 : decode cX11_refuseBinary 13 = .ok (.aload_n 0, 1) := by decide +kernel
theorem dX11_refuseBinary_14 : decode cX11_refuseBinary 14 = .ok (.getfield 23, 3) := by decide +kernel
theorem dX11_refuseBinary_17 : decode cX11_refuseBinary 17 = .ok (.iload_n 1, 1) := by decide +kernel
theorem dX11_refuseBinary_18 : decode cX11_refuseBinary 18 = .ok (.aaload, 1) := by decide +kernel
theorem dX11_refuseBinary_19 : decode cX11_refuseBinary 19 = .ok (.getfield 163, 3) := by decide +kernel
theorem dX11_refuseBinary_22 : decode cX11_refuseBinary 22 = .ok (.iload_n 2, 1) := by decide +kernel
theorem dX11_refuseBinary_23 : decode cX11_refuseBinary 23 = .ok (.iaload, 1) := by decide +kernel
theorem dX11_refuseBinary_24 : decode cX11_refuseBinary 24 = .ok (.iconst 2, 1) := by decide +kernel
theorem dX11_refuseBinary_25 : decode cX11_refuseBinary 25 = .ok (.if_icmp .ne 7, 3) := by decide +kernel
theorem dX11_refuseBinary_28 : decode cX11_refuseBinary 28 = .ok (.iconst 0, 1) := by decide +kernel
theorem dX11_refuseBinary_29 : decode cX11_refuseBinary 29 = .ok (.goto 5, 3) := by decide +kernel
theorem dX11_refuseBinary_32 : decode cX11_refuseBinary 32 = .ok (.bipush (-12), 2) := by decide +kernel
theorem dX11_refuseBinary_34 : decode cX11_refuseBinary 34 = .ok (.ireturn, 1) := by decide +kernel
def fX11_refuseBinary (F : Nat) (a0 : Nat) (a1 : Int) (a2 : Int) (h : HF) : RO :=
  zbd (fX11_refuseOperation F a0 a1 a2 h) fun r1 h =>
  if r1 = 0 then (
    zrs (a0 + 5) a1 fun x2 =>
    zrd h (x2 + 1) a2 fun x3 =>
    zjn (fun (y34_0 : Int) (h : HF) => (
      some (y34_0, h)
    )) fun j34 =>
    if x3 = 2 then (
      j34 0 h
    ) else (
      j34 (-12) h
    )
  ) else (
    some (r1, h)
  )
set_option maxHeartbeats 4000000 in
set_option maxRecDepth 100000 in
theorem mX11_refuseBinary (F : Nat) (l : Launch) (g : zG) (B : Nat) (h : HF) (a0 : Nat) (a1 : Int) (a2 : Int) (ra0 : kt a0 = 14) (ra1 : rng a1) (ra2 : rng a2) : CTi l g B yX11_refuseBinary cX11_refuseBinary 4 (some .int) 3 [.ref (B + a0), .int (ii a1), .int (ii a2)] h (fX11_refuseBinary F a0 a1 a2 h) := by
  refine z_enterI (by decide) rfl (Nat.le_of_ble_eq_true rfl) ?_
  intro p e s m args below meth c ls o Q cx hp hl hf hQ
  have hl : lv_has ls 4 [(0, .ref (B + a0)), (1, .int (ii a1)), (2, .int (ii a2))] := hl
  unfold fX11_refuseBinary at hf
  refine lv_aload_n cx.1 cx.2.1 dX11_refuseBinary_0 rfl (lv_at hl 0 rfl) ?_
  refine lv_iload_n cx.1 cx.2.1 dX11_refuseBinary_1 rfl (lv_at hl 1 rfl) ?_
  refine lv_iload_n cx.1 cx.2.1 dX11_refuseBinary_2 rfl (lv_at hl 2 rfl) ?_
  refine z_ci cx hp (fun o' hx => zrunV (n := 3) (As := [.int (ii a1), .int (ii a2)]) (rest := []) cx hp (mX11_refuseOperation F l g B h a0 a1 a2 ra0 ra1 ra2 o' hx) 11 ra0 (by decide) rfl vw_X11_refuseOperation ml_X11_141 (by decide) rfl hl.1 rfl (Nat.le_of_ble_eq_true rfl) dX11_refuseBinary_3) hf (fun r1 h H locs rr1 hp hf => ?_)
  refine lv_istore_n (lv' := [(3, .int (ii r1)), (0, .ref (B + a0)), (1, .int (ii a1)), (2, .int (ii a2))]) cx.1 cx.2.1 dX11_refuseBinary_6 rfl hl (by decide) rfl (fun ls hl => ?_)
  refine lv_iload_n cx.1 cx.2.1 dX11_refuseBinary_7 rfl (lv_at hl 0 rfl) ?_
  refine z_if_eq cx rr1 (tgt := 13) dX11_refuseBinary_8 (by decide) hf (fun _ hf => ?_) (fun _ hf => ?_)
  · refine lv_aload_n cx.1 cx.2.1 dX11_refuseBinary_13 rfl (lv_at hl 1 rfl) ?_
    refine z_gets cx hp (T := TX11) 11 2 (a0 + 5) rfl zin_11 (by decide) (by decide) ra0 rfl fl_X11_23 dX11_refuseBinary_14 ?_
    refine lv_iload_n cx.1 cx.2.1 dX11_refuseBinary_17 rfl (lv_at hl 2 rfl) ?_
    refine z_aald1 cx hp (zs_11_2 a0 (kt_lt ra0 (by decide)) ra0) ra1 dX11_refuseBinary_18 hf (fun x2 rx2 hf => ?_)
    refine z_gets cx hp (T := TX0) 0 3 (x2 + 1) rfl zin_0 (by decide) (by decide) rx2 rfl fl_X11_163 dX11_refuseBinary_19 ?_
    refine lv_iload_n cx.1 cx.2.1 dX11_refuseBinary_22 rfl (lv_at hl 3 rfl) ?_
    refine z_iald cx hp (zs_0_3 x2 (kt_lt rx2 (by decide)) rx2) ra2 dX11_refuseBinary_23 hf (fun x3 rx3 hf => ?_)
    refine z_iconst cx dX11_refuseBinary_24 ?_
    refine z_jn hf (fun j => ∀ (y34_0 : Int) (h : HF) (H : Heap) (locs : List Loc) (ls : Array Slot), rng y34_0 → Hp g B s h H locs → lv_has ls 4 [] → j y34_0 h = some o → W p l e (rmn 3) s m args below meth c H locs 0 0 Q (F0 m 34 ls [.int (ii y34_0)])) ?_ (fun j34 hj34 hf => ?_)
    · intro y34_0 h H locs ls ry34_0 hp hl hf
      rw [hQ]; exact z_iret cx hp ry34_0 dX11_refuseBinary_34 hf
    refine z_icmp_ne cx rx3 (by decide) (tgt := 32) dX11_refuseBinary_25 (by decide) hf (fun _ hf => ?_) (fun _ hf => ?_)
    · refine z_iconst cx dX11_refuseBinary_28 ?_
      refine lv_goto (tgt := 34) cx.1 cx.2.1 dX11_refuseBinary_29 (by decide) ?_
      exact hj34 0 h _ _ ls (by decide) hp (lv_sub hl [] rfl) hf
    · refine z_bipush cx (by decide) dX11_refuseBinary_32 ?_
      exact hj34 (-12) h _ _ ls (by decide) hp (lv_sub hl [] rfl) hf
  · refine lv_iload_n cx.1 cx.2.1 dX11_refuseBinary_11 rfl (lv_at hl 0 rfl) ?_
    rw [hQ]; exact z_iret cx hp rr1 dX11_refuseBinary_12 hf
theorem dX11_refusePair_0 : decode cX11_refusePair 0 = .ok (.iload_n 1, 1) := by decide +kernel
theorem dX11_refusePair_1 : decode cX11_refusePair 1 = .ok (.invokestatic 123, 3) := by decide +kernel
theorem dX11_refusePair_4 : decode cX11_refusePair 4 = .ok (.ifCond .eq 10, 3) := by decide +kernel
theorem dX11_refusePair_7 : decode cX11_refusePair 7 = .ok (.iload_n 2, 1) := by decide +kernel
theorem dX11_refusePair_8 : decode cX11_refusePair 8 = .ok (.invokestatic 123, 3) := by decide +kernel
theorem dX11_refusePair_11 : decode cX11_refusePair 11 = .ok (.ifCond .ne 6, 3) := by decide +kernel
theorem dX11_refusePair_17 : decode cX11_refusePair 17 = .ok (.aload_n 0, 1) := by decide +kernel
theorem dX11_refusePair_18 : decode cX11_refusePair 18 = .ok (.getfield 23, 3) := by decide +kernel
theorem dX11_refusePair_21 : decode cX11_refusePair 21 = .ok (.iload_n 1, 1) := by decide +kernel
theorem dX11_refusePair_22 : decode cX11_refusePair 22 = .ok (.aaload, 1) := by decide +kernel
theorem dX11_refusePair_23 : decode cX11_refusePair 23 = .ok (.invokevirtual 360, 3) := by decide +kernel
theorem dX11_refusePair_26 : decode cX11_refusePair 26 = .ok (.ifCond .eq 15, 3) := by decide +kernel
theorem dX11_refusePair_29 : decode cX11_refusePair 29 = .ok (.aload_n 0, 1) := by decide +kernel
theorem dX11_refusePair_30 : decode cX11_refusePair 30 = .ok (.getfield 23, 3) := by decide +kernel
theorem dX11_refusePair_33 : decode cX11_refusePair 33 = .ok (.iload_n 2, 1) := by decide +kernel
theorem dX11_refusePair_34 : decode cX11_refusePair 34 = .ok (.aaload, 1) := by decide +kernel
theorem dX11_refusePair_35 : decode cX11_refusePair 35 = .ok (.invokevirtual 360, 3) := by decide +kernel
theorem dX11_refusePair_38 : decode cX11_refusePair 38 = .ok (.ifCond .ne 6, 3) := by decide +kernel
theorem dX11_refusePair_44 : decode cX11_refusePair 44 = .ok (.aload_n 0, 1) := by decide +kernel
theorem dX11_refusePair_45 : decode cX11_refusePair 45 = .ok (.getfield 23, 3) := by decide +kernel
theorem dX11_refusePair_48 : decode cX11_refusePair 48 = .ok (.iload_n 1, 1) := by decide +kernel
theorem dX11_refusePair_49 : decode cX11_refusePair 49 = .ok (.aaload, 1) := by decide +kernel
theorem dX11_refusePair_50 : decode cX11_refusePair 50 = .ok (.getfield 178, 3) := by decide +kernel
theorem dX11_refusePair_53 : decode cX11_refusePair 53 = .ok (.aload_n 0, 1) := by decide +kernel
theorem dX11_refusePair_54 : decode cX11_refusePair 54 = .ok (.getfield 23, 3) := by decide +kernel
theorem dX11_refusePair_57 : decode cX11_refusePair 57 = .ok (.iload_n 2, 1) := by decide +kernel
theorem dX11_refusePair_58 : decode cX11_refusePair 58 = .ok (.aaload, 1) := by decide +kernel
theorem dX11_refusePair_59 : decode cX11_refusePair 59 = .ok (.getfield 178, 3) := by decide +kernel
theorem dX11_refusePair_62 : decode cX11_refusePair 62 = .ok (.if_icmp .ne 7, 3) := by decide +kernel
theorem dX11_refusePair_65 : decode cX11_refusePair 65 = .ok (.iconst 0, 1) := by decide +kernel
theorem dX11_refusePair_66 : decode cX11_refusePair 66 = .ok (.goto 5, 3) := by decide +kernel
theorem dX11_refusePair_69 : decode cX11_refusePair 69 = .ok (.bipush (-4), 2) := by decide +kernel
theorem dX11_refusePair_71 : decode cX11_refusePair 71 = .ok (.ireturn, 1) := by decide +kernel
theorem dX11_refusePair_41 : decode cX11_refusePair 41 = .ok (.bipush (-2), 2) := by decide +kernel
theorem dX11_refusePair_43 : decode cX11_refusePair 43 = .ok (.ireturn, 1) := by decide +kernel
theorem dX11_refusePair_14 : decode cX11_refusePair 14 = .ok (.bipush (-3), 2) := by decide +kernel
theorem dX11_refusePair_16 : decode cX11_refusePair 16 = .ok (.ireturn, 1) := by decide +kernel
def fX11_refusePair (F : Nat) (a0 : Nat) (a1 : Int) (a2 : Int) (h : HF) : RO :=
  zbd (fX11_isDrawer F a1 h) fun r1 h =>
  zjn (fun  (h : HF) => (
    some ((-3), h)
  )) fun j14 =>
  if r1 = 0 then (
    j14  h
  ) else (
    zbd (fX11_isDrawer F a2 h) fun r2 h =>
    if r2 = 0 then (
      j14  h
    ) else (
      zrs (a0 + 5) a1 fun x3 =>
      zbd (fX0_isHeld F x3 h) fun r4 h =>
      zjn (fun  (h : HF) => (
        some ((-2), h)
      )) fun j41 =>
      if r4 = 0 then (
        j41  h
      ) else (
        zrs (a0 + 5) a2 fun x5 =>
        zbd (fX0_isHeld F x5 h) fun r6 h =>
        if r6 = 0 then (
          j41  h
        ) else (
          zrs (a0 + 5) a1 fun x7 =>
          zgf h x7 2 fun x8 =>
          zrs (a0 + 5) a2 fun x9 =>
          zgf h x9 2 fun x10 =>
          zjn (fun (y71_0 : Int) (h : HF) => (
            some (y71_0, h)
          )) fun j71 =>
          if x8 = x10 then (
            j71 0 h
          ) else (
            j71 (-4) h
          )
        )
      )
    )
  )
set_option maxHeartbeats 4000000 in
set_option maxRecDepth 100000 in
theorem mX11_refusePair (F : Nat) (l : Launch) (g : zG) (B : Nat) (h : HF) (a0 : Nat) (a1 : Int) (a2 : Int) (ra0 : kt a0 = 14) (ra1 : rng a1) (ra2 : rng a2) : CTi l g B yX11_refusePair cX11_refusePair 3 (some .int) 1 [.ref (B + a0), .int (ii a1), .int (ii a2)] h (fX11_refusePair F a0 a1 a2 h) := by
  refine z_enterI (by decide) rfl (Nat.le_of_ble_eq_true rfl) ?_
  intro p e s m args below meth c ls o Q cx hp hl hf hQ
  have hl : lv_has ls 3 [(0, .ref (B + a0)), (1, .int (ii a1)), (2, .int (ii a2))] := hl
  unfold fX11_refusePair at hf
  refine lv_iload_n cx.1 cx.2.1 dX11_refusePair_0 rfl (lv_at hl 1 rfl) ?_
  refine z_ci cx hp (fun o' hx => zrunS (n := 1) (As := [.int (ii a1)]) (rest := []) cx hp (mX11_isDrawer F l g B h a1 ra1 o' hx) sw_X11_isDrawer ml_X11_123 (by decide) rfl hl.1 rfl (Nat.le_of_ble_eq_true rfl) dX11_refusePair_1) hf (fun r1 h H locs rr1 hp hf => ?_)
  refine z_jn hf (fun j => ∀  (h : HF) (H : Heap) (locs : List Loc) (ls : Array Slot), Hp g B s h H locs → lv_has ls 3 [] → j  h = some o → W p l e (rmn 1) s m args below meth c H locs 0 0 Q (F0 m 14 ls [])) ?_ (fun j14 hj14 hf => ?_)
  · intro  h H locs ls  hp hl hf
    refine z_bipush cx (by decide) dX11_refusePair_14 ?_
    rw [hQ]; exact z_iret cx hp (by decide) dX11_refusePair_16 hf
  refine z_if_eq cx rr1 (tgt := 14) dX11_refusePair_4 (by decide) hf (fun _ hf => ?_) (fun _ hf => ?_)
  · exact hj14  h _ _ ls  hp (lv_sub hl [] rfl) hf
  · refine lv_iload_n cx.1 cx.2.1 dX11_refusePair_7 rfl (lv_at hl 2 rfl) ?_
    refine z_ci cx hp (fun o' hx => zrunS (n := 1) (As := [.int (ii a2)]) (rest := []) cx hp (mX11_isDrawer F l g B h a2 ra2 o' hx) sw_X11_isDrawer ml_X11_123 (by decide) rfl hl.1 rfl (Nat.le_of_ble_eq_true rfl) dX11_refusePair_8) hf (fun r2 h H locs rr2 hp hf => ?_)
    refine z_if_ne cx rr2 (tgt := 17) dX11_refusePair_11 (by decide) hf (fun _ hf => ?_) (fun _ hf => ?_)
    · exact hj14  h _ _ ls  hp (lv_sub hl [] rfl) hf
    · refine lv_aload_n cx.1 cx.2.1 dX11_refusePair_17 rfl (lv_at hl 0 rfl) ?_
      refine z_gets cx hp (T := TX11) 11 2 (a0 + 5) rfl zin_11 (by decide) (by decide) ra0 rfl fl_X11_23 dX11_refusePair_18 ?_
      refine lv_iload_n cx.1 cx.2.1 dX11_refusePair_21 rfl (lv_at hl 1 rfl) ?_
      refine z_aald1 cx hp (zs_11_2 a0 (kt_lt ra0 (by decide)) ra0) ra1 dX11_refusePair_22 hf (fun x3 rx3 hf => ?_)
      refine z_ci cx hp (fun o' hx => zrunV (n := 1) (As := []) (rest := []) cx hp (mX0_isHeld F l g B h x3 rx3 o' hx) 0 rx3 (by decide) rfl vw_X0_isHeld ml_X11_360 (by decide) rfl hl.1 rfl (Nat.le_of_ble_eq_true rfl) dX11_refusePair_23) hf (fun r4 h H locs rr4 hp hf => ?_)
      refine z_jn hf (fun j => ∀  (h : HF) (H : Heap) (locs : List Loc) (ls : Array Slot), Hp g B s h H locs → lv_has ls 3 [] → j  h = some o → W p l e (rmn 1) s m args below meth c H locs 0 0 Q (F0 m 41 ls [])) ?_ (fun j41 hj41 hf => ?_)
      · intro  h H locs ls  hp hl hf
        refine z_bipush cx (by decide) dX11_refusePair_41 ?_
        rw [hQ]; exact z_iret cx hp (by decide) dX11_refusePair_43 hf
      refine z_if_eq cx rr4 (tgt := 41) dX11_refusePair_26 (by decide) hf (fun _ hf => ?_) (fun _ hf => ?_)
      · exact hj41  h _ _ ls  hp (lv_sub hl [] rfl) hf
      · refine lv_aload_n cx.1 cx.2.1 dX11_refusePair_29 rfl (lv_at hl 0 rfl) ?_
        refine z_gets cx hp (T := TX11) 11 2 (a0 + 5) rfl zin_11 (by decide) (by decide) ra0 rfl fl_X11_23 dX11_refusePair_30 ?_
        refine lv_iload_n cx.1 cx.2.1 dX11_refusePair_33 rfl (lv_at hl 2 rfl) ?_
        refine z_aald1 cx hp (zs_11_2 a0 (kt_lt ra0 (by decide)) ra0) ra2 dX11_refusePair_34 hf (fun x5 rx5 hf => ?_)
        refine z_ci cx hp (fun o' hx => zrunV (n := 1) (As := []) (rest := []) cx hp (mX0_isHeld F l g B h x5 rx5 o' hx) 0 rx5 (by decide) rfl vw_X0_isHeld ml_X11_360 (by decide) rfl hl.1 rfl (Nat.le_of_ble_eq_true rfl) dX11_refusePair_35) hf (fun r6 h H locs rr6 hp hf => ?_)
        refine z_if_ne cx rr6 (tgt := 44) dX11_refusePair_38 (by decide) hf (fun _ hf => ?_) (fun _ hf => ?_)
        · exact hj41  h _ _ ls  hp (lv_sub hl [] rfl) hf
        · refine lv_aload_n cx.1 cx.2.1 dX11_refusePair_44 rfl (lv_at hl 0 rfl) ?_
          refine z_gets cx hp (T := TX11) 11 2 (a0 + 5) rfl zin_11 (by decide) (by decide) ra0 rfl fl_X11_23 dX11_refusePair_45 ?_
          refine lv_iload_n cx.1 cx.2.1 dX11_refusePair_48 rfl (lv_at hl 1 rfl) ?_
          refine z_aald1 cx hp (zs_11_2 a0 (kt_lt ra0 (by decide)) ra0) ra1 dX11_refusePair_49 hf (fun x7 rx7 hf => ?_)
          refine z_geti cx hp (T := TX0) 0 2 rfl zin_0 (by decide) (by decide) rx7 rfl fl_X11_178 dX11_refusePair_50 hf (fun x8 rx8 hf => ?_)
          refine lv_aload_n cx.1 cx.2.1 dX11_refusePair_53 rfl (lv_at hl 0 rfl) ?_
          refine z_gets cx hp (T := TX11) 11 2 (a0 + 5) rfl zin_11 (by decide) (by decide) ra0 rfl fl_X11_23 dX11_refusePair_54 ?_
          refine lv_iload_n cx.1 cx.2.1 dX11_refusePair_57 rfl (lv_at hl 2 rfl) ?_
          refine z_aald1 cx hp (zs_11_2 a0 (kt_lt ra0 (by decide)) ra0) ra2 dX11_refusePair_58 hf (fun x9 rx9 hf => ?_)
          refine z_geti cx hp (T := TX0) 0 2 rfl zin_0 (by decide) (by decide) rx9 rfl fl_X11_178 dX11_refusePair_59 hf (fun x10 rx10 hf => ?_)
          refine z_jn hf (fun j => ∀ (y71_0 : Int) (h : HF) (H : Heap) (locs : List Loc) (ls : Array Slot), rng y71_0 → Hp g B s h H locs → lv_has ls 3 [] → j y71_0 h = some o → W p l e (rmn 1) s m args below meth c H locs 0 0 Q (F0 m 71 ls [.int (ii y71_0)])) ?_ (fun j71 hj71 hf => ?_)
          · intro y71_0 h H locs ls ry71_0 hp hl hf
            rw [hQ]; exact z_iret cx hp ry71_0 dX11_refusePair_71 hf
          refine z_icmp_ne cx rx8 rx10 (tgt := 69) dX11_refusePair_62 (by decide) hf (fun _ hf => ?_) (fun _ hf => ?_)
          · refine z_iconst cx dX11_refusePair_65 ?_
            refine lv_goto (tgt := 71) cx.1 cx.2.1 dX11_refusePair_66 (by decide) ?_
            exact hj71 0 h _ _ ls (by decide) hp (lv_sub hl [] rfl) hf
          · refine z_bipush cx (by decide) dX11_refusePair_69 ?_
            exact hj71 (-4) h _ _ ls (by decide) hp (lv_sub hl [] rfl) hf
theorem dX11_refuseTrial_0 : decode cX11_refuseTrial 0 = .ok (.iload_n 1, 1) := by decide +kernel
theorem dX11_refuseTrial_1 : decode cX11_refuseTrial 1 = .ok (.invokestatic 123, 3) := by decide +kernel
theorem dX11_refuseTrial_4 : decode cX11_refuseTrial 4 = .ok (.ifCond .eq 10, 3) := by decide +kernel
theorem dX11_refuseTrial_7 : decode cX11_refuseTrial 7 = .ok (.iload_n 2, 1) := by decide +kernel
theorem dX11_refuseTrial_8 : decode cX11_refuseTrial 8 = .ok (.invokestatic 217, 3) := by decide +kernel
theorem dX11_refuseTrial_11 : decode cX11_refuseTrial 11 = .ok (.ifCond .ne 6, 3) := by decide +kernel
theorem dX11_refuseTrial_17 : decode cX11_refuseTrial 17 = .ok (.aload_n 0, 1) := by decide +kernel
theorem dX11_refuseTrial_18 : decode cX11_refuseTrial 18 = .ok (.getfield 23, 3) := by decide +kernel
theorem dX11_refuseTrial_21 : decode cX11_refuseTrial 21 = .ok (.iload_n 1, 1) := by decide +kernel
theorem dX11_refuseTrial_22 : decode cX11_refuseTrial 22 = .ok (.aaload, 1) := by decide +kernel
theorem dX11_refuseTrial_23 : decode cX11_refuseTrial 23 = .ok (.invokevirtual 360, 3) := by decide +kernel
theorem dX11_refuseTrial_26 : decode cX11_refuseTrial 26 = .ok (.ifCond .eq 15, 3) := by decide +kernel
theorem dX11_refuseTrial_29 : decode cX11_refuseTrial 29 = .ok (.aload_n 0, 1) := by decide +kernel
theorem dX11_refuseTrial_30 : decode cX11_refuseTrial 30 = .ok (.getfield 41, 3) := by decide +kernel
theorem dX11_refuseTrial_33 : decode cX11_refuseTrial 33 = .ok (.iload_n 2, 1) := by decide +kernel
theorem dX11_refuseTrial_34 : decode cX11_refuseTrial 34 = .ok (.aaload, 1) := by decide +kernel
theorem dX11_refuseTrial_35 : decode cX11_refuseTrial 35 = .ok (.invokevirtual 364, 3) := by decide +kernel
theorem dX11_refuseTrial_38 : decode cX11_refuseTrial 38 = .ok (.ifCond .ne 6, 3) := by decide +kernel
theorem dX11_refuseTrial_44 : decode cX11_refuseTrial 44 = .ok (.aload_n 0, 1) := by decide +kernel
theorem dX11_refuseTrial_45 : decode cX11_refuseTrial 45 = .ok (.getfield 41, 3) := by decide +kernel
theorem dX11_refuseTrial_48 : decode cX11_refuseTrial 48 = .ok (.iload_n 2, 1) := by decide +kernel
theorem dX11_refuseTrial_49 : decode cX11_refuseTrial 49 = .ok (.aaload, 1) := by decide +kernel
theorem dX11_refuseTrial_50 : decode cX11_refuseTrial 50 = .ok (.aload_n 0, 1) := by decide +kernel
theorem dX11_refuseTrial_51 : decode cX11_refuseTrial 51 = .ok (.getfield 23, 3) := by decide +kernel
theorem dX11_refuseTrial_54 : decode cX11_refuseTrial 54 = .ok (.iload_n 1, 1) := by decide +kernel
theorem dX11_refuseTrial_55 : decode cX11_refuseTrial 55 = .ok (.aaload, 1) := by decide +kernel
theorem dX11_refuseTrial_56 : decode cX11_refuseTrial 56 = .ok (.invokevirtual 374, 3) := by decide +kernel
theorem dX11_refuseTrial_59 : decode cX11_refuseTrial 59 = .ok (.ifCond .eq 7, 3) := by decide +kernel
theorem dX11_refuseTrial_62 : decode cX11_refuseTrial 62 = .ok (.iconst 0, 1) := by decide +kernel
theorem dX11_refuseTrial_63 : decode cX11_refuseTrial 63 = .ok (.goto 5, 3) := by decide +kernel
theorem dX11_refuseTrial_66 : decode cX11_refuseTrial 66 = .ok (.bipush (-4), 2) := by decide +kernel
theorem dX11_refuseTrial_68 : decode cX11_refuseTrial 68 = .ok (.ireturn, 1) := by decide +kernel
theorem dX11_refuseTrial_41 : decode cX11_refuseTrial 41 = .ok (.bipush (-2), 2) := by decide +kernel
theorem dX11_refuseTrial_43 : decode cX11_refuseTrial 43 = .ok (.ireturn, 1) := by decide +kernel
theorem dX11_refuseTrial_14 : decode cX11_refuseTrial 14 = .ok (.bipush (-3), 2) := by decide +kernel
theorem dX11_refuseTrial_16 : decode cX11_refuseTrial 16 = .ok (.ireturn, 1) := by decide +kernel
def fX11_refuseTrial (F : Nat) (a0 : Nat) (a1 : Int) (a2 : Int) (h : HF) : RO :=
  zbd (fX11_isDrawer F a1 h) fun r1 h =>
  zjn (fun  (h : HF) => (
    some ((-3), h)
  )) fun j14 =>
  if r1 = 0 then (
    j14  h
  ) else (
    zbd (fX11_isList F a2 h) fun r2 h =>
    if r2 = 0 then (
      j14  h
    ) else (
      zrs (a0 + 5) a1 fun x3 =>
      zbd (fX0_isHeld F x3 h) fun r4 h =>
      zjn (fun  (h : HF) => (
        some ((-2), h)
      )) fun j41 =>
      if r4 = 0 then (
        j41  h
      ) else (
        zrl h (a0 + 77) a2 fun x5 =>
        zbd (fX4_isHeld F x5 h) fun r6 h =>
        if r6 = 0 then (
          j41  h
        ) else (
          zrl h (a0 + 77) a2 fun x7 =>
          zrs (a0 + 5) a1 fun x8 =>
          zbd (fX4_fits F x7 x8 h) fun r9 h =>
          zjn (fun (y68_0 : Int) (h : HF) => (
            some (y68_0, h)
          )) fun j68 =>
          if r9 = 0 then (
            j68 (-4) h
          ) else (
            j68 0 h
          )
        )
      )
    )
  )
set_option maxHeartbeats 4000000 in
set_option maxRecDepth 100000 in
theorem mX11_refuseTrial (F : Nat) (l : Launch) (g : zG) (B : Nat) (h : HF) (a0 : Nat) (a1 : Int) (a2 : Int) (ra0 : kt a0 = 14) (ra1 : rng a1) (ra2 : rng a2) : CTi l g B yX11_refuseTrial cX11_refuseTrial 3 (some .int) 1 [.ref (B + a0), .int (ii a1), .int (ii a2)] h (fX11_refuseTrial F a0 a1 a2 h) := by
  refine z_enterI (by decide) rfl (Nat.le_of_ble_eq_true rfl) ?_
  intro p e s m args below meth c ls o Q cx hp hl hf hQ
  have hl : lv_has ls 3 [(0, .ref (B + a0)), (1, .int (ii a1)), (2, .int (ii a2))] := hl
  unfold fX11_refuseTrial at hf
  refine lv_iload_n cx.1 cx.2.1 dX11_refuseTrial_0 rfl (lv_at hl 1 rfl) ?_
  refine z_ci cx hp (fun o' hx => zrunS (n := 1) (As := [.int (ii a1)]) (rest := []) cx hp (mX11_isDrawer F l g B h a1 ra1 o' hx) sw_X11_isDrawer ml_X11_123 (by decide) rfl hl.1 rfl (Nat.le_of_ble_eq_true rfl) dX11_refuseTrial_1) hf (fun r1 h H locs rr1 hp hf => ?_)
  refine z_jn hf (fun j => ∀  (h : HF) (H : Heap) (locs : List Loc) (ls : Array Slot), Hp g B s h H locs → lv_has ls 3 [] → j  h = some o → W p l e (rmn 1) s m args below meth c H locs 0 0 Q (F0 m 14 ls [])) ?_ (fun j14 hj14 hf => ?_)
  · intro  h H locs ls  hp hl hf
    refine z_bipush cx (by decide) dX11_refuseTrial_14 ?_
    rw [hQ]; exact z_iret cx hp (by decide) dX11_refuseTrial_16 hf
  refine z_if_eq cx rr1 (tgt := 14) dX11_refuseTrial_4 (by decide) hf (fun _ hf => ?_) (fun _ hf => ?_)
  · exact hj14  h _ _ ls  hp (lv_sub hl [] rfl) hf
  · refine lv_iload_n cx.1 cx.2.1 dX11_refuseTrial_7 rfl (lv_at hl 2 rfl) ?_
    refine z_ci cx hp (fun o' hx => zrunS (n := 1) (As := [.int (ii a2)]) (rest := []) cx hp (mX11_isList F l g B h a2 ra2 o' hx) sw_X11_isList ml_X11_217 (by decide) rfl hl.1 rfl (Nat.le_of_ble_eq_true rfl) dX11_refuseTrial_8) hf (fun r2 h H locs rr2 hp hf => ?_)
    refine z_if_ne cx rr2 (tgt := 17) dX11_refuseTrial_11 (by decide) hf (fun _ hf => ?_) (fun _ hf => ?_)
    · exact hj14  h _ _ ls  hp (lv_sub hl [] rfl) hf
    · refine lv_aload_n cx.1 cx.2.1 dX11_refuseTrial_17 rfl (lv_at hl 0 rfl) ?_
      refine z_gets cx hp (T := TX11) 11 2 (a0 + 5) rfl zin_11 (by decide) (by decide) ra0 rfl fl_X11_23 dX11_refuseTrial_18 ?_
      refine lv_iload_n cx.1 cx.2.1 dX11_refuseTrial_21 rfl (lv_at hl 1 rfl) ?_
      refine z_aald1 cx hp (zs_11_2 a0 (kt_lt ra0 (by decide)) ra0) ra1 dX11_refuseTrial_22 hf (fun x3 rx3 hf => ?_)
      refine z_ci cx hp (fun o' hx => zrunV (n := 1) (As := []) (rest := []) cx hp (mX0_isHeld F l g B h x3 rx3 o' hx) 0 rx3 (by decide) rfl vw_X0_isHeld ml_X11_360 (by decide) rfl hl.1 rfl (Nat.le_of_ble_eq_true rfl) dX11_refuseTrial_23) hf (fun r4 h H locs rr4 hp hf => ?_)
      refine z_jn hf (fun j => ∀  (h : HF) (H : Heap) (locs : List Loc) (ls : Array Slot), Hp g B s h H locs → lv_has ls 3 [] → j  h = some o → W p l e (rmn 1) s m args below meth c H locs 0 0 Q (F0 m 41 ls [])) ?_ (fun j41 hj41 hf => ?_)
      · intro  h H locs ls  hp hl hf
        refine z_bipush cx (by decide) dX11_refuseTrial_41 ?_
        rw [hQ]; exact z_iret cx hp (by decide) dX11_refuseTrial_43 hf
      refine z_if_eq cx rr4 (tgt := 41) dX11_refuseTrial_26 (by decide) hf (fun _ hf => ?_) (fun _ hf => ?_)
      · exact hj41  h _ _ ls  hp (lv_sub hl [] rfl) hf
      · refine lv_aload_n cx.1 cx.2.1 dX11_refuseTrial_29 rfl (lv_at hl 0 rfl) ?_
        refine z_gets cx hp (T := TX11) 11 5 (a0 + 77) rfl zin_11 (by decide) (by decide) ra0 rfl fl_X11_41 dX11_refuseTrial_30 ?_
        refine lv_iload_n cx.1 cx.2.1 dX11_refuseTrial_33 rfl (lv_at hl 2 rfl) ?_
        refine z_aald2 cx hp (zs_11_5 a0 (kt_lt ra0 (by decide)) ra0) ra2 dX11_refuseTrial_34 hf (fun x5 rx5 hf => ?_)
        refine z_ci cx hp (fun o' hx => zrunV (n := 1) (As := []) (rest := []) cx hp (mX4_isHeld F l g B h x5 rx5 o' hx) 4 rx5 (by decide) rfl vw_X4_isHeld ml_X11_364 (by decide) rfl hl.1 rfl (Nat.le_of_ble_eq_true rfl) dX11_refuseTrial_35) hf (fun r6 h H locs rr6 hp hf => ?_)
        refine z_if_ne cx rr6 (tgt := 44) dX11_refuseTrial_38 (by decide) hf (fun _ hf => ?_) (fun _ hf => ?_)
        · exact hj41  h _ _ ls  hp (lv_sub hl [] rfl) hf
        · refine lv_aload_n cx.1 cx.2.1 dX11_refuseTrial_44 rfl (lv_at hl 0 rfl) ?_
          refine z_gets cx hp (T := TX11) 11 5 (a0 + 77) rfl zin_11 (by decide) (by decide) ra0 rfl fl_X11_41 dX11_refuseTrial_45 ?_
          refine lv_iload_n cx.1 cx.2.1 dX11_refuseTrial_48 rfl (lv_at hl 2 rfl) ?_
          refine z_aald2 cx hp (zs_11_5 a0 (kt_lt ra0 (by decide)) ra0) ra2 dX11_refuseTrial_49 hf (fun x7 rx7 hf => ?_)
          refine lv_aload_n cx.1 cx.2.1 dX11_refuseTrial_50 rfl (lv_at hl 0 rfl) ?_
          refine z_gets cx hp (T := TX11) 11 2 (a0 + 5) rfl zin_11 (by decide) (by decide) ra0 rfl fl_X11_23 dX11_refuseTrial_51 ?_
          refine lv_iload_n cx.1 cx.2.1 dX11_refuseTrial_54 rfl (lv_at hl 1 rfl) ?_
          refine z_aald1 cx hp (zs_11_2 a0 (kt_lt ra0 (by decide)) ra0) ra1 dX11_refuseTrial_55 hf (fun x8 rx8 hf => ?_)
          refine z_ci cx hp (fun o' hx => zrunV (n := 1) (As := [.ref (B + x8)]) (rest := []) cx hp (mX4_fits F l g B h x7 x8 rx7 rx8 o' hx) 4 rx7 (by decide) rfl vw_X4_fits ml_X11_374 (by decide) rfl hl.1 rfl (Nat.le_of_ble_eq_true rfl) dX11_refuseTrial_56) hf (fun r9 h H locs rr9 hp hf => ?_)
          refine z_jn hf (fun j => ∀ (y68_0 : Int) (h : HF) (H : Heap) (locs : List Loc) (ls : Array Slot), rng y68_0 → Hp g B s h H locs → lv_has ls 3 [] → j y68_0 h = some o → W p l e (rmn 1) s m args below meth c H locs 0 0 Q (F0 m 68 ls [.int (ii y68_0)])) ?_ (fun j68 hj68 hf => ?_)
          · intro y68_0 h H locs ls ry68_0 hp hl hf
            rw [hQ]; exact z_iret cx hp ry68_0 dX11_refuseTrial_68 hf
          refine z_if_eq cx rr9 (tgt := 66) dX11_refuseTrial_59 (by decide) hf (fun _ hf => ?_) (fun _ hf => ?_)
          · refine z_bipush cx (by decide) dX11_refuseTrial_66 ?_
            exact hj68 (-4) h _ _ ls (by decide) hp (lv_sub hl [] rfl) hf
          · refine z_iconst cx dX11_refuseTrial_62 ?_
            refine lv_goto (tgt := 68) cx.1 cx.2.1 dX11_refuseTrial_63 (by decide) ?_
            exact hj68 0 h _ _ ls (by decide) hp (lv_sub hl [] rfl) hf
theorem dX11_refuseLaw_0 : decode cX11_refuseLaw 0 = .ok (.aload_n 0, 1) := by decide +kernel
theorem dX11_refuseLaw_1 : decode cX11_refuseLaw 1 = .ok (.iload_n 1, 1) := by decide +kernel
theorem dX11_refuseLaw_2 : decode cX11_refuseLaw 2 = .ok (.iload_n 2, 1) := by decide +kernel
theorem dX11_refuseLaw_3 : decode cX11_refuseLaw 3 = .ok (.invokevirtual 227, 3) := by decide +kernel
theorem dX11_refuseLaw_6 : decode cX11_refuseLaw 6 = .ok (.istore 4, 2) := by decide +kernel
theorem dX11_refuseLaw_8 : decode cX11_refuseLaw 8 = .ok (.iload 4, 2) := by decide +kernel
theorem dX11_refuseLaw_10 : decode cX11_refuseLaw 10 = .ok (.ifCond .eq 6, 3) := by decide +kernel
theorem dX11_refuseLaw_13 : decode cX11_refuseLaw 13 = .ok (.iload 4, 2) := by decide +kernel
theorem dX11_refuseLaw_15 : decode cX11_refuseLaw 15 = .ok (.ireturn, 1) := by decide +kernel
theorem dX11_refuseLaw_16 : decode cX11_refuseLaw 16 = .ok (.iload_n 3, 1) := by decide +kernel
theorem dX11_refuseLaw_17 : decode cX11_refuseLaw 17 = .ok (.ifCond .lt 16, 3) := by decide +kernel
theorem dX11_refuseLaw_20 : decode cX11_refuseLaw 20 = .ok (.iload_n 3, 1) := by decide +kernel
theorem dX11_refuseLaw_21 : decode cX11_refuseLaw 21 = .ok (.aload_n 0, 1) := by decide +kernel
theorem dX11_refuseLaw_22 : decode cX11_refuseLaw 22 = .ok (.getfield 41, 3) := by decide +kernel
theorem dX11_refuseLaw_25 : decode cX11_refuseLaw 25 = .ok (.iload_n 2, 1) := by decide +kernel
theorem dX11_refuseLaw_26 : decode cX11_refuseLaw 26 = .ok (.aaload, 1) := by decide +kernel
theorem dX11_refuseLaw_27 : decode cX11_refuseLaw 27 = .ok (.getfield 224, 3) := by decide +kernel
theorem dX11_refuseLaw_30 : decode cX11_refuseLaw 30 = .ok (.if_icmp .lt 8, 3) := by decide +kernel
theorem dX11_refuseLaw_38 : decode cX11_refuseLaw 38 = .ok (.iconst 0, 1) := by decide +kernel
theorem dX11_refuseLaw_33 : decode cX11_refuseLaw 33 = .ok (.bipush (-3), 2) := by decide +kernel
theorem dX11_refuseLaw_35 : decode cX11_refuseLaw 35 = .ok (.goto 4, 3) := by decide +kernel
theorem dX11_refuseLaw_39 : decode cX11_refuseLaw 39 = .ok (.ireturn, 1) := by decide +kernel
def fX11_refuseLaw (F : Nat) (a0 : Nat) (a1 : Int) (a2 : Int) (a3 : Int) (h : HF) : RO :=
  zbd (fX11_refuseTrial F a0 a1 a2 h) fun r1 h =>
  if r1 = 0 then (
    zjn (fun (y39_0 : Int) (h : HF) => (
      some (y39_0, h)
    )) fun j39 =>
    zjn (fun  (h : HF) => (
      j39 (-3) h
    )) fun j33 =>
    if a3 < 0 then (
      j33  h
    ) else (
      zrl h (a0 + 77) a2 fun x2 =>
      zgf h x2 0 fun x3 =>
      if a3 < x3 then (
        j39 0 h
      ) else (
        j33  h
      )
    )
  ) else (
    some (r1, h)
  )
set_option maxHeartbeats 4000000 in
set_option maxRecDepth 100000 in
theorem mX11_refuseLaw (F : Nat) (l : Launch) (g : zG) (B : Nat) (h : HF) (a0 : Nat) (a1 : Int) (a2 : Int) (a3 : Int) (ra0 : kt a0 = 14) (ra1 : rng a1) (ra2 : rng a2) (ra3 : rng a3) : CTi l g B yX11_refuseLaw cX11_refuseLaw 5 (some .int) 2 [.ref (B + a0), .int (ii a1), .int (ii a2), .int (ii a3)] h (fX11_refuseLaw F a0 a1 a2 a3 h) := by
  refine z_enterI (by decide) rfl (Nat.le_of_ble_eq_true rfl) ?_
  intro p e s m args below meth c ls o Q cx hp hl hf hQ
  have hl : lv_has ls 5 [(0, .ref (B + a0)), (1, .int (ii a1)), (2, .int (ii a2)), (3, .int (ii a3))] := hl
  unfold fX11_refuseLaw at hf
  refine lv_aload_n cx.1 cx.2.1 dX11_refuseLaw_0 rfl (lv_at hl 0 rfl) ?_
  refine lv_iload_n cx.1 cx.2.1 dX11_refuseLaw_1 rfl (lv_at hl 1 rfl) ?_
  refine lv_iload_n cx.1 cx.2.1 dX11_refuseLaw_2 rfl (lv_at hl 2 rfl) ?_
  refine z_ci cx hp (fun o' hx => zrunV (n := 2) (As := [.int (ii a1), .int (ii a2)]) (rest := []) cx hp (mX11_refuseTrial F l g B h a0 a1 a2 ra0 ra1 ra2 o' hx) 11 ra0 (by decide) rfl vw_X11_refuseTrial ml_X11_227 (by decide) rfl hl.1 rfl (Nat.le_of_ble_eq_true rfl) dX11_refuseLaw_3) hf (fun r1 h H locs rr1 hp hf => ?_)
  refine lv_istore (lv' := [(4, .int (ii r1)), (0, .ref (B + a0)), (1, .int (ii a1)), (2, .int (ii a2)), (3, .int (ii a3))]) cx.1 cx.2.1 dX11_refuseLaw_6 hl (by decide) rfl (fun ls hl => ?_)
  refine lv_iload cx.1 cx.2.1 dX11_refuseLaw_8 (lv_at hl 0 rfl) ?_
  refine z_if_eq cx rr1 (tgt := 16) dX11_refuseLaw_10 (by decide) hf (fun _ hf => ?_) (fun _ hf => ?_)
  · refine lv_iload_n cx.1 cx.2.1 dX11_refuseLaw_16 rfl (lv_at hl 4 rfl) ?_
    refine z_jn hf (fun j => ∀ (y39_0 : Int) (h : HF) (H : Heap) (locs : List Loc) (ls : Array Slot), rng y39_0 → Hp g B s h H locs → lv_has ls 5 [] → j y39_0 h = some o → W p l e (rmn 2) s m args below meth c H locs 0 0 Q (F0 m 39 ls [.int (ii y39_0)])) ?_ (fun j39 hj39 hf => ?_)
    · intro y39_0 h H locs ls ry39_0 hp hl hf
      rw [hQ]; exact z_iret cx hp ry39_0 dX11_refuseLaw_39 hf
    refine z_jn hf (fun j => ∀  (h : HF) (H : Heap) (locs : List Loc) (ls : Array Slot), Hp g B s h H locs → lv_has ls 5 [] → j  h = some o → W p l e (rmn 2) s m args below meth c H locs 0 0 Q (F0 m 33 ls [])) ?_ (fun j33 hj33 hf => ?_)
    · intro  h H locs ls  hp hl hf
      refine z_bipush cx (by decide) dX11_refuseLaw_33 ?_
      refine lv_goto (tgt := 39) cx.1 cx.2.1 dX11_refuseLaw_35 (by decide) ?_
      exact hj39 (-3) h _ _ ls (by decide) hp (lv_sub hl [] rfl) hf
    refine z_if_lt cx ra3 (tgt := 33) dX11_refuseLaw_17 (by decide) hf (fun _ hf => ?_) (fun _ hf => ?_)
    · exact hj33  h _ _ ls  hp (lv_sub hl [] rfl) hf
    · refine lv_iload_n cx.1 cx.2.1 dX11_refuseLaw_20 rfl (lv_at hl 4 rfl) ?_
      refine lv_aload_n cx.1 cx.2.1 dX11_refuseLaw_21 rfl (lv_at hl 1 rfl) ?_
      refine z_gets cx hp (T := TX11) 11 5 (a0 + 77) rfl zin_11 (by decide) (by decide) ra0 rfl fl_X11_41 dX11_refuseLaw_22 ?_
      refine lv_iload_n cx.1 cx.2.1 dX11_refuseLaw_25 rfl (lv_at hl 3 rfl) ?_
      refine z_aald2 cx hp (zs_11_5 a0 (kt_lt ra0 (by decide)) ra0) ra2 dX11_refuseLaw_26 hf (fun x2 rx2 hf => ?_)
      refine z_geti cx hp (T := TX4) 4 0 rfl zin_4 (by decide) (by decide) rx2 rfl fl_X11_224 dX11_refuseLaw_27 hf (fun x3 rx3 hf => ?_)
      refine z_icmp_lt cx ra3 rx3 (tgt := 38) dX11_refuseLaw_30 (by decide) hf (fun _ hf => ?_) (fun _ hf => ?_)
      · refine z_iconst cx dX11_refuseLaw_38 ?_
        exact hj39 0 h _ _ ls (by decide) hp (lv_sub hl [] rfl) hf
      · exact hj33  h _ _ ls  hp (lv_sub hl [] rfl) hf
  · refine lv_iload cx.1 cx.2.1 dX11_refuseLaw_13 (lv_at hl 0 rfl) ?_
    rw [hQ]; exact z_iret cx hp rr1 dX11_refuseLaw_15 hf
theorem dX12_four_0 : decode cX12_four 0 = .ok (.bipush 24, 2) := by decide +kernel
theorem dX12_four_2 : decode cX12_four 2 = .ok (.istore_n 2, 1) := by decide +kernel
theorem dX12_four_3 : decode cX12_four 3 = .ok (.iload_n 2, 1) := by decide +kernel
theorem dX12_four_4 : decode cX12_four 4 = .ok (.ifCond .lt 35, 3) := by decide +kernel
theorem dX12_four_7 : decode cX12_four 7 = .ok (.aload_n 0, 1) := by decide +kernel
theorem dX12_four_8 : decode cX12_four 8 = .ok (.getfield 7, 3) := by decide +kernel
theorem dX12_four_11 : decode cX12_four 11 = .ok (.aload_n 0, 1) := by decide +kernel
theorem dX12_four_12 : decode cX12_four 12 = .ok (.getfield 119, 3) := by decide +kernel
theorem dX12_four_15 : decode cX12_four 15 = .ok (.iload_n 1, 1) := by decide +kernel
theorem dX12_four_16 : decode cX12_four 16 = .ok (.iload_n 2, 1) := by decide +kernel
theorem dX12_four_17 : decode cX12_four 17 = .ok (.ishr, 1) := by decide +kernel
theorem dX12_four_18 : decode cX12_four 18 = .ok (.sipush 255, 3) := by decide +kernel
theorem dX12_four_21 : decode cX12_four 21 = .ok (.iand, 1) := by decide +kernel
theorem dX12_four_22 : decode cX12_four 22 = .ok (.iastore, 1) := by decide +kernel
theorem dX12_four_23 : decode cX12_four 23 = .ok (.aload_n 0, 1) := by decide +kernel
theorem dX12_four_24 : decode cX12_four 24 = .ok (.dup, 1) := by decide +kernel
theorem dX12_four_25 : decode cX12_four 25 = .ok (.getfield 119, 3) := by decide +kernel
theorem dX12_four_28 : decode cX12_four 28 = .ok (.iconst 1, 1) := by decide +kernel
theorem dX12_four_29 : decode cX12_four 29 = .ok (.iadd, 1) := by decide +kernel
theorem dX12_four_30 : decode cX12_four 30 = .ok (.putfield 119, 3) := by decide +kernel
theorem dX12_four_33 : decode cX12_four 33 = .ok (.iinc 2 (-8), 3) := by decide +kernel
theorem dX12_four_36 : decode cX12_four 36 = .ok (.goto (-33), 3) := by decide +kernel
theorem dX12_four_39 : decode cX12_four 39 = .ok (.return_, 1) := by decide +kernel
def LX12_four_3 (F : Nat) (u0 : Nat) (u1 : Int) (k39 : HF → RO) : Nat → Int → HF → RO
  | 0, _, _ => none
  | n + 1, v2, h =>
    if v2 < 0 then (
      k39  h
    ) else (
      zgf h u0 2 fun x1 =>
      zwr h (u0 + 1) x1 (wand (wshr u1 v2) 255) fun h =>
      zgf h u0 2 fun x2 =>
      zpf h u0 2 (wr (x2 + 1)) fun h =>
      zlet (wr (v2 + (-8))) fun x3 =>
      LX12_four_3 F u0 u1 k39 n x3 h
    )
set_option maxHeartbeats 4000000 in
set_option maxRecDepth 100000 in
theorem wX12_four_3 {p : Program} {l : Launch} {e : Env} {s : State} {m : MethodId} {args : Array Value} {below : List Frame} {meth : Method} {c : Code} {Q : State → Prop} {g : zG} {B : Nat} {o : Int × HF} (F : Nat) (cx : Cx p s m args meth c cX12_four 3 RX12 none g B) (u0 : Nat) (ru0 : kt u0 = 15) (u1 : Int) (ru1 : rng u1) (k39 : HF → RO) (hk39 : ∀  (h : HF) (H : Heap) (locs : List Loc) (ls : Array Slot), Hp g B s h H locs → lv_has ls 3 [] → k39  h = some o → W p l e (rmn 0) s m args below meth c H locs 0 0 Q (F0 m 39 ls [])) : ∀ (n : Nat) (v2 : Int) (h : HF) (H : Heap) (locs : List Loc) (ls : Array Slot), rng v2 → Hp g B s h H locs → lv_has ls 3 [(0, .ref (B + u0)), (1, .int (ii u1)), (2, .int (ii v2))] → LX12_four_3 F u0 u1 k39 n v2 h = some o → W p l e (rmn 0) s m args below meth c H locs 0 0 Q (F0 m 3 ls []) := by
  intro n
  induction n with
  | zero =>
    intro v2 h H locs ls rv2 hp hl hf
    cases hf
  | succ n ih =>
    intro v2 h H locs ls rv2 hp hl hf
    rw [LX12_four_3] at hf
    refine lv_iload_n cx.1 cx.2.1 dX12_four_3 rfl (lv_at hl 2 rfl) ?_
    refine z_if_lt cx rv2 (tgt := 39) dX12_four_4 (by decide) hf (fun _ hf => ?_) (fun _ hf => ?_)
    · exact hk39  h _ _ ls  hp (lv_sub hl [] rfl) hf
    · refine lv_aload_n cx.1 cx.2.1 dX12_four_7 rfl (lv_at hl 0 rfl) ?_
      refine z_gets cx hp (T := TX12) 12 1 (u0 + 1) rfl zin_12 (by decide) (by decide) ru0 rfl fl_X12_7 dX12_four_8 ?_
      refine lv_aload_n cx.1 cx.2.1 dX12_four_11 rfl (lv_at hl 0 rfl) ?_
      refine z_geti cx hp (T := TX12) 12 2 rfl zin_12 (by decide) (by decide) ru0 rfl fl_X12_119 dX12_four_12 hf (fun x1 rx1 hf => ?_)
      refine lv_iload_n cx.1 cx.2.1 dX12_four_15 rfl (lv_at hl 1 rfl) ?_
      refine lv_iload_n cx.1 cx.2.1 dX12_four_16 rfl (lv_at hl 2 rfl) ?_
      refine z_ishr cx dX12_four_17 ?_
      refine z_sipush cx (by decide) dX12_four_18 ?_
      refine z_iand cx dX12_four_21 ?_
      refine z_iast cx hp (zs_12_1 u0 (kt_lt ru0 (by decide)) ru0) rx1 (rng_and _ _) dX12_four_22 hf (fun h H locs hp hf => ?_)
      refine lv_aload_n cx.1 cx.2.1 dX12_four_23 rfl (lv_at hl 0 rfl) ?_
      refine lv_dup cx.1 cx.2.1 dX12_four_24 rfl ?_
      refine z_geti cx hp (T := TX12) 12 2 rfl zin_12 (by decide) (by decide) ru0 rfl fl_X12_119 dX12_four_25 hf (fun x2 rx2 hf => ?_)
      refine z_iconst cx dX12_four_28 ?_
      refine z_iadd cx dX12_four_29 ?_
      refine z_puti cx hp (T := TX12) tyX12 tyX12_ok nmX12 12 2 (rng_wr _) rfl zin_12 (by decide) (by decide) ru0 rfl rfl rfl fl_X12_119 dX12_four_30 hf (fun h H locs hp hf => ?_)
      refine z_iinc cx (fun x3 => [(2, .int (ii x3)), (0, .ref (B + u0)), (1, .int (ii u1))]) dX12_four_33 hl (k := 2) rfl (by decide) (fun _ => rfl) hf (fun x3 rx3 hf ls hl => ?_)
      refine lv_goto (tgt := 3) cx.1 cx.2.1 dX12_four_36 (by decide) ?_
      exact ih x3 h _ _ ls rx3 hp (lv_sub hl [1, 2, 0] rfl) hf
def fX12_four (F : Nat) (a0 : Nat) (a1 : Int) (h : HF) : RO :=
  zjn (fun  (h : HF) => (
    some (0, h)
  )) fun j39 =>
  LX12_four_3 F a0 a1 j39 F 24 h
set_option maxHeartbeats 4000000 in
set_option maxRecDepth 100000 in
theorem mX12_four (F : Nat) (l : Launch) (g : zG) (B : Nat) (h : HF) (a0 : Nat) (a1 : Int) (ra0 : kt a0 = 15) (ra1 : rng a1) : CTv l g B yX12_four cX12_four 3 0 [.ref (B + a0), .int (ii a1)] h (fX12_four F a0 a1 h) := by
  refine z_enterV (by decide) rfl (Nat.le_of_ble_eq_true rfl) ?_
  intro p e s m args below meth c ls o Q cx hp hl hf hQ
  have hl : lv_has ls 3 [(0, .ref (B + a0)), (1, .int (ii a1))] := hl
  unfold fX12_four at hf
  refine z_bipush cx (by decide) dX12_four_0 ?_
  refine lv_istore_n (lv' := [(2, .int (ii 24)), (0, .ref (B + a0)), (1, .int (ii a1))]) cx.1 cx.2.1 dX12_four_2 rfl hl (by decide) rfl (fun ls hl => ?_)
  refine z_jn hf (fun j => ∀  (h : HF) (H : Heap) (locs : List Loc) (ls : Array Slot), Hp g B s h H locs → lv_has ls 3 [] → j  h = some o → W p l e (rmn 0) s m args below meth c H locs 0 0 Q (F0 m 39 ls [])) ?_ (fun j39 hj39 hf => ?_)
  · intro  h H locs ls  hp hl hf
    rw [hQ]; exact z_vret cx hp dX12_four_39 hf
  exact wX12_four_3 F cx a0 ra0 a1 ra1 j39 hj39 F 24 h _ _ ls (by decide) hp (lv_sub hl [1, 2, 0] rfl) hf
theorem dX12_trim_0 : decode cX12_trim 0 = .ok (.aload_n 0, 1) := by decide +kernel
theorem dX12_trim_1 : decode cX12_trim 1 = .ok (.iconst 0, 1) := by decide +kernel
theorem dX12_trim_2 : decode cX12_trim 2 = .ok (.putfield 115, 3) := by decide +kernel
theorem dX12_trim_5 : decode cX12_trim 5 = .ok (.iload_n 1, 1) := by decide +kernel
theorem dX12_trim_6 : decode cX12_trim 6 = .ok (.ifCond .lt 11, 3) := by decide +kernel
theorem dX12_trim_9 : decode cX12_trim 9 = .ok (.iload_n 1, 1) := by decide +kernel
theorem dX12_trim_10 : decode cX12_trim 10 = .ok (.aload_n 0, 1) := by decide +kernel
theorem dX12_trim_11 : decode cX12_trim 11 = .ok (.getfield 119, 3) := by decide +kernel
theorem dX12_trim_14 : decode cX12_trim 14 = .ok (.if_icmp .le 6, 3) := by decide +kernel
theorem dX12_trim_20 : decode cX12_trim 20 = .ok (.aload_n 0, 1) := by decide +kernel
theorem dX12_trim_21 : decode cX12_trim 21 = .ok (.iload_n 1, 1) := by decide +kernel
theorem dX12_trim_22 : decode cX12_trim 22 = .ok (.putfield 119, 3) := by decide +kernel
theorem dX12_trim_25 : decode cX12_trim 25 = .ok (.iload_n 1, 1) := by decide +kernel
theorem dX12_trim_26 : decode cX12_trim 26 = .ok (.ireturn, 1) := by decide +kernel
theorem dX12_trim_17 : decode cX12_trim 17 = .ok (.bipush (-3), 2) := by decide +kernel
theorem dX12_trim_19 : decode cX12_trim 19 = .ok (.ireturn, 1) := by decide +kernel
def fX12_trim (F : Nat) (a0 : Nat) (a1 : Int) (h : HF) : RO :=
  zpf h a0 0 0 fun h =>
  zjn (fun  (h : HF) => (
    some ((-3), h)
  )) fun j17 =>
  if a1 < 0 then (
    j17  h
  ) else (
    zgf h a0 2 fun x1 =>
    if x1 < a1 then (
      j17  h
    ) else (
      zpf h a0 2 a1 fun h =>
      some (a1, h)
    )
  )
set_option maxHeartbeats 4000000 in
set_option maxRecDepth 100000 in
theorem mX12_trim (F : Nat) (l : Launch) (g : zG) (B : Nat) (h : HF) (a0 : Nat) (a1 : Int) (ra0 : kt a0 = 15) (ra1 : rng a1) : CTi l g B yX12_trim cX12_trim 2 (some .int) 0 [.ref (B + a0), .int (ii a1)] h (fX12_trim F a0 a1 h) := by
  refine z_enterI (by decide) rfl (Nat.le_of_ble_eq_true rfl) ?_
  intro p e s m args below meth c ls o Q cx hp hl hf hQ
  have hl : lv_has ls 2 [(0, .ref (B + a0)), (1, .int (ii a1))] := hl
  unfold fX12_trim at hf
  refine lv_aload_n cx.1 cx.2.1 dX12_trim_0 rfl (lv_at hl 0 rfl) ?_
  refine z_iconst cx dX12_trim_1 ?_
  refine z_puti cx hp (T := TX12) tyX12 tyX12_ok nmX12 12 0 (by decide) rfl zin_12 (by decide) (by decide) ra0 rfl rfl rfl fl_X12_115 dX12_trim_2 hf (fun h H locs hp hf => ?_)
  refine lv_iload_n cx.1 cx.2.1 dX12_trim_5 rfl (lv_at hl 1 rfl) ?_
  refine z_jn hf (fun j => ∀  (h : HF) (H : Heap) (locs : List Loc) (ls : Array Slot), Hp g B s h H locs → lv_has ls 2 [] → j  h = some o → W p l e (rmn 0) s m args below meth c H locs 0 0 Q (F0 m 17 ls [])) ?_ (fun j17 hj17 hf => ?_)
  · intro  h H locs ls  hp hl hf
    refine z_bipush cx (by decide) dX12_trim_17 ?_
    rw [hQ]; exact z_iret cx hp (by decide) dX12_trim_19 hf
  refine z_if_lt cx ra1 (tgt := 17) dX12_trim_6 (by decide) hf (fun _ hf => ?_) (fun _ hf => ?_)
  · exact hj17  h _ _ ls  hp (lv_sub hl [] rfl) hf
  · refine lv_iload_n cx.1 cx.2.1 dX12_trim_9 rfl (lv_at hl 1 rfl) ?_
    refine lv_aload_n cx.1 cx.2.1 dX12_trim_10 rfl (lv_at hl 0 rfl) ?_
    refine z_geti cx hp (T := TX12) 12 2 rfl zin_12 (by decide) (by decide) ra0 rfl fl_X12_119 dX12_trim_11 hf (fun x1 rx1 hf => ?_)
    refine z_icmp_le cx ra1 rx1 (tgt := 20) dX12_trim_14 (by decide) hf (fun _ hf => ?_) (fun _ hf => ?_)
    · exact hj17  h _ _ ls  hp (lv_sub hl [] rfl) hf
    · refine lv_aload_n cx.1 cx.2.1 dX12_trim_20 rfl (lv_at hl 0 rfl) ?_
      refine lv_iload_n cx.1 cx.2.1 dX12_trim_21 rfl (lv_at hl 1 rfl) ?_
      refine z_puti cx hp (T := TX12) tyX12 tyX12_ok nmX12 12 2 ra1 rfl zin_12 (by decide) (by decide) ra0 rfl rfl rfl fl_X12_119 dX12_trim_22 hf (fun h H locs hp hf => ?_)
      refine lv_iload_n cx.1 cx.2.1 dX12_trim_25 rfl (lv_at hl 1 rfl) ?_
      rw [hQ]; exact z_iret cx hp ra1 dX12_trim_26 hf
theorem dX12_out_0 : decode cX12_out 0 = .ok (.aload_n 0, 1) := by decide +kernel
theorem dX12_out_1 : decode cX12_out 1 = .ok (.iconst 0, 1) := by decide +kernel
theorem dX12_out_2 : decode cX12_out 2 = .ok (.putfield 115, 3) := by decide +kernel
theorem dX12_out_5 : decode cX12_out 5 = .ok (.iload_n 1, 1) := by decide +kernel
theorem dX12_out_6 : decode cX12_out 6 = .ok (.ifCond .lt 20, 3) := by decide +kernel
theorem dX12_out_9 : decode cX12_out 9 = .ok (.iload_n 1, 1) := by decide +kernel
theorem dX12_out_10 : decode cX12_out 10 = .ok (.aload_n 0, 1) := by decide +kernel
theorem dX12_out_11 : decode cX12_out 11 = .ok (.getfield 126, 3) := by decide +kernel
theorem dX12_out_14 : decode cX12_out 14 = .ok (.if_icmp .ge 12, 3) := by decide +kernel
theorem dX12_out_17 : decode cX12_out 17 = .ok (.aload_n 0, 1) := by decide +kernel
theorem dX12_out_18 : decode cX12_out 18 = .ok (.getfield 13, 3) := by decide +kernel
theorem dX12_out_21 : decode cX12_out 21 = .ok (.iload_n 1, 1) := by decide +kernel
theorem dX12_out_22 : decode cX12_out 22 = .ok (.iaload, 1) := by decide +kernel
theorem dX12_out_23 : decode cX12_out 23 = .ok (.goto 4, 3) := by decide +kernel
theorem dX12_out_26 : decode cX12_out 26 = .ok (.iconst (-1), 1) := by decide +kernel
theorem dX12_out_27 : decode cX12_out 27 = .ok (.ireturn, 1) := by decide +kernel
def fX12_out (F : Nat) (a0 : Nat) (a1 : Int) (h : HF) : RO :=
  zpf h a0 0 0 fun h =>
  zjn (fun (y27_0 : Int) (h : HF) => (
    some (y27_0, h)
  )) fun j27 =>
  zjn (fun  (h : HF) => (
    j27 (-1) h
  )) fun j26 =>
  if a1 < 0 then (
    j26  h
  ) else (
    zgf h a0 4 fun x1 =>
    if a1 < x1 then (
      zrd h (a0 + 2) a1 fun x2 =>
      j27 x2 h
    ) else (
      j26  h
    )
  )
set_option maxHeartbeats 4000000 in
set_option maxRecDepth 100000 in
theorem mX12_out (F : Nat) (l : Launch) (g : zG) (B : Nat) (h : HF) (a0 : Nat) (a1 : Int) (ra0 : kt a0 = 15) (ra1 : rng a1) : CTi l g B yX12_out cX12_out 2 (some .int) 0 [.ref (B + a0), .int (ii a1)] h (fX12_out F a0 a1 h) := by
  refine z_enterI (by decide) rfl (Nat.le_of_ble_eq_true rfl) ?_
  intro p e s m args below meth c ls o Q cx hp hl hf hQ
  have hl : lv_has ls 2 [(0, .ref (B + a0)), (1, .int (ii a1))] := hl
  unfold fX12_out at hf
  refine lv_aload_n cx.1 cx.2.1 dX12_out_0 rfl (lv_at hl 0 rfl) ?_
  refine z_iconst cx dX12_out_1 ?_
  refine z_puti cx hp (T := TX12) tyX12 tyX12_ok nmX12 12 0 (by decide) rfl zin_12 (by decide) (by decide) ra0 rfl rfl rfl fl_X12_115 dX12_out_2 hf (fun h H locs hp hf => ?_)
  refine lv_iload_n cx.1 cx.2.1 dX12_out_5 rfl (lv_at hl 1 rfl) ?_
  refine z_jn hf (fun j => ∀ (y27_0 : Int) (h : HF) (H : Heap) (locs : List Loc) (ls : Array Slot), rng y27_0 → Hp g B s h H locs → lv_has ls 2 [] → j y27_0 h = some o → W p l e (rmn 0) s m args below meth c H locs 0 0 Q (F0 m 27 ls [.int (ii y27_0)])) ?_ (fun j27 hj27 hf => ?_)
  · intro y27_0 h H locs ls ry27_0 hp hl hf
    rw [hQ]; exact z_iret cx hp ry27_0 dX12_out_27 hf
  refine z_jn hf (fun j => ∀  (h : HF) (H : Heap) (locs : List Loc) (ls : Array Slot), Hp g B s h H locs → lv_has ls 2 [] → j  h = some o → W p l e (rmn 0) s m args below meth c H locs 0 0 Q (F0 m 26 ls [])) ?_ (fun j26 hj26 hf => ?_)
  · intro  h H locs ls  hp hl hf
    refine z_iconst cx dX12_out_26 ?_
    exact hj27 (-1) h _ _ ls (by decide) hp (lv_sub hl [] rfl) hf
  refine z_if_lt cx ra1 (tgt := 26) dX12_out_6 (by decide) hf (fun _ hf => ?_) (fun _ hf => ?_)
  · exact hj26  h _ _ ls  hp (lv_sub hl [] rfl) hf
  · refine lv_iload_n cx.1 cx.2.1 dX12_out_9 rfl (lv_at hl 1 rfl) ?_
    refine lv_aload_n cx.1 cx.2.1 dX12_out_10 rfl (lv_at hl 0 rfl) ?_
    refine z_geti cx hp (T := TX12) 12 4 rfl zin_12 (by decide) (by decide) ra0 rfl fl_X12_126 dX12_out_11 hf (fun x1 rx1 hf => ?_)
    refine z_icmp_ge cx ra1 rx1 (tgt := 26) dX12_out_14 (by decide) hf (fun _ hf => ?_) (fun _ hf => ?_)
    · refine lv_aload_n cx.1 cx.2.1 dX12_out_17 rfl (lv_at hl 0 rfl) ?_
      refine z_gets cx hp (T := TX12) 12 3 (a0 + 2) rfl zin_12 (by decide) (by decide) ra0 rfl fl_X12_13 dX12_out_18 ?_
      refine lv_iload_n cx.1 cx.2.1 dX12_out_21 rfl (lv_at hl 1 rfl) ?_
      refine z_iald cx hp (zs_12_3 a0 (kt_lt ra0 (by decide)) ra0) ra1 dX12_out_22 hf (fun x2 rx2 hf => ?_)
      refine lv_goto (tgt := 27) cx.1 cx.2.1 dX12_out_23 (by decide) ?_
      exact hj27 x2 h _ _ ls rx2 hp (lv_sub hl [] rfl) hf
    · exact hj26  h _ _ ls  hp (lv_sub hl [] rfl) hf
theorem dX12_isDrawer_0 : decode cX12_isDrawer 0 = .ok (.iload_n 1, 1) := by decide +kernel
theorem dX12_isDrawer_1 : decode cX12_isDrawer 1 = .ok (.ifCond .lt 13, 3) := by decide +kernel
theorem dX12_isDrawer_4 : decode cX12_isDrawer 4 = .ok (.iload_n 1, 1) := by decide +kernel
theorem dX12_isDrawer_5 : decode cX12_isDrawer 5 = .ok (.bipush 8, 2) := by decide +kernel
theorem dX12_isDrawer_7 : decode cX12_isDrawer 7 = .ok (.if_icmp .ge 7, 3) := by decide +kernel
theorem dX12_isDrawer_10 : decode cX12_isDrawer 10 = .ok (.iconst 1, 1) := by decide +kernel
theorem dX12_isDrawer_11 : decode cX12_isDrawer 11 = .ok (.goto 4, 3) := by decide +kernel
theorem dX12_isDrawer_14 : decode cX12_isDrawer 14 = .ok (.iconst 0, 1) := by decide +kernel
theorem dX12_isDrawer_15 : decode cX12_isDrawer 15 = .ok (.ireturn, 1) := by decide +kernel
def fX12_isDrawer (F : Nat) (a0 : Nat) (a1 : Int) (h : HF) : RO :=
  zjn (fun (y15_0 : Int) (h : HF) => (
    zrz y15_0 h
  )) fun j15 =>
  zjn (fun  (h : HF) => (
    j15 0 h
  )) fun j14 =>
  if a1 < 0 then (
    j14  h
  ) else (
    if a1 < 8 then (
      j15 1 h
    ) else (
      j14  h
    )
  )
set_option maxHeartbeats 4000000 in
set_option maxRecDepth 100000 in
theorem mX12_isDrawer (F : Nat) (l : Launch) (g : zG) (B : Nat) (h : HF) (a0 : Nat) (a1 : Int) (ra0 : kt a0 = 15) (ra1 : rng a1) : CTi l g B yX12_isDrawer cX12_isDrawer 2 (some .boolean) 0 [.ref (B + a0), .int (ii a1)] h (fX12_isDrawer F a0 a1 h) := by
  refine z_enterI (by decide) rfl (Nat.le_of_ble_eq_true rfl) ?_
  intro p e s m args below meth c ls o Q cx hp hl hf hQ
  have hl : lv_has ls 2 [(0, .ref (B + a0)), (1, .int (ii a1))] := hl
  unfold fX12_isDrawer at hf
  refine lv_iload_n cx.1 cx.2.1 dX12_isDrawer_0 rfl (lv_at hl 1 rfl) ?_
  refine z_jn hf (fun j => ∀ (y15_0 : Int) (h : HF) (H : Heap) (locs : List Loc) (ls : Array Slot), rng y15_0 → Hp g B s h H locs → lv_has ls 2 [] → j y15_0 h = some o → W p l e (rmn 0) s m args below meth c H locs 0 0 Q (F0 m 15 ls [.int (ii y15_0)])) ?_ (fun j15 hj15 hf => ?_)
  · intro y15_0 h H locs ls ry15_0 hp hl hf
    rw [hQ]; exact z_zret cx hp dX12_isDrawer_15 hf
  refine z_jn hf (fun j => ∀  (h : HF) (H : Heap) (locs : List Loc) (ls : Array Slot), Hp g B s h H locs → lv_has ls 2 [] → j  h = some o → W p l e (rmn 0) s m args below meth c H locs 0 0 Q (F0 m 14 ls [])) ?_ (fun j14 hj14 hf => ?_)
  · intro  h H locs ls  hp hl hf
    refine z_iconst cx dX12_isDrawer_14 ?_
    exact hj15 0 h _ _ ls (by decide) hp (lv_sub hl [] rfl) hf
  refine z_if_lt cx ra1 (tgt := 14) dX12_isDrawer_1 (by decide) hf (fun _ hf => ?_) (fun _ hf => ?_)
  · exact hj14  h _ _ ls  hp (lv_sub hl [] rfl) hf
  · refine lv_iload_n cx.1 cx.2.1 dX12_isDrawer_4 rfl (lv_at hl 1 rfl) ?_
    refine z_bipush cx (by decide) dX12_isDrawer_5 ?_
    refine z_icmp_ge cx ra1 (by decide) (tgt := 14) dX12_isDrawer_7 (by decide) hf (fun _ hf => ?_) (fun _ hf => ?_)
    · refine z_iconst cx dX12_isDrawer_10 ?_
      refine lv_goto (tgt := 15) cx.1 cx.2.1 dX12_isDrawer_11 (by decide) ?_
      exact hj15 1 h _ _ ls (by decide) hp (lv_sub hl [] rfl) hf
    · exact hj14  h _ _ ls  hp (lv_sub hl [] rfl) hf
theorem dX12_isList_0 : decode cX12_isList 0 = .ok (.iload_n 1, 1) := by decide +kernel
theorem dX12_isList_1 : decode cX12_isList 1 = .ok (.ifCond .lt 12, 3) := by decide +kernel
theorem dX12_isList_4 : decode cX12_isList 4 = .ok (.iload_n 1, 1) := by decide +kernel
theorem dX12_isList_5 : decode cX12_isList 5 = .ok (.iconst 4, 1) := by decide +kernel
theorem dX12_isList_6 : decode cX12_isList 6 = .ok (.if_icmp .ge 7, 3) := by decide +kernel
theorem dX12_isList_9 : decode cX12_isList 9 = .ok (.iconst 1, 1) := by decide +kernel
theorem dX12_isList_10 : decode cX12_isList 10 = .ok (.goto 4, 3) := by decide +kernel
theorem dX12_isList_13 : decode cX12_isList 13 = .ok (.iconst 0, 1) := by decide +kernel
theorem dX12_isList_14 : decode cX12_isList 14 = .ok (.ireturn, 1) := by decide +kernel
def fX12_isList (F : Nat) (a0 : Nat) (a1 : Int) (h : HF) : RO :=
  zjn (fun (y14_0 : Int) (h : HF) => (
    zrz y14_0 h
  )) fun j14 =>
  zjn (fun  (h : HF) => (
    j14 0 h
  )) fun j13 =>
  if a1 < 0 then (
    j13  h
  ) else (
    if a1 < 4 then (
      j14 1 h
    ) else (
      j13  h
    )
  )
set_option maxHeartbeats 4000000 in
set_option maxRecDepth 100000 in
theorem mX12_isList (F : Nat) (l : Launch) (g : zG) (B : Nat) (h : HF) (a0 : Nat) (a1 : Int) (ra0 : kt a0 = 15) (ra1 : rng a1) : CTi l g B yX12_isList cX12_isList 2 (some .boolean) 0 [.ref (B + a0), .int (ii a1)] h (fX12_isList F a0 a1 h) := by
  refine z_enterI (by decide) rfl (Nat.le_of_ble_eq_true rfl) ?_
  intro p e s m args below meth c ls o Q cx hp hl hf hQ
  have hl : lv_has ls 2 [(0, .ref (B + a0)), (1, .int (ii a1))] := hl
  unfold fX12_isList at hf
  refine lv_iload_n cx.1 cx.2.1 dX12_isList_0 rfl (lv_at hl 1 rfl) ?_
  refine z_jn hf (fun j => ∀ (y14_0 : Int) (h : HF) (H : Heap) (locs : List Loc) (ls : Array Slot), rng y14_0 → Hp g B s h H locs → lv_has ls 2 [] → j y14_0 h = some o → W p l e (rmn 0) s m args below meth c H locs 0 0 Q (F0 m 14 ls [.int (ii y14_0)])) ?_ (fun j14 hj14 hf => ?_)
  · intro y14_0 h H locs ls ry14_0 hp hl hf
    rw [hQ]; exact z_zret cx hp dX12_isList_14 hf
  refine z_jn hf (fun j => ∀  (h : HF) (H : Heap) (locs : List Loc) (ls : Array Slot), Hp g B s h H locs → lv_has ls 2 [] → j  h = some o → W p l e (rmn 0) s m args below meth c H locs 0 0 Q (F0 m 13 ls [])) ?_ (fun j13 hj13 hf => ?_)
  · intro  h H locs ls  hp hl hf
    refine z_iconst cx dX12_isList_13 ?_
    exact hj14 0 h _ _ ls (by decide) hp (lv_sub hl [] rfl) hf
  refine z_if_lt cx ra1 (tgt := 13) dX12_isList_1 (by decide) hf (fun _ hf => ?_) (fun _ hf => ?_)
  · exact hj13  h _ _ ls  hp (lv_sub hl [] rfl) hf
  · refine lv_iload_n cx.1 cx.2.1 dX12_isList_4 rfl (lv_at hl 1 rfl) ?_
    refine z_iconst cx dX12_isList_5 ?_
    refine z_icmp_ge cx ra1 (by decide) (tgt := 13) dX12_isList_6 (by decide) hf (fun _ hf => ?_) (fun _ hf => ?_)
    · refine z_iconst cx dX12_isList_9 ?_
      refine lv_goto (tgt := 14) cx.1 cx.2.1 dX12_isList_10 (by decide) ?_
      exact hj14 1 h _ _ ls (by decide) hp (lv_sub hl [] rfl) hf
    · exact hj13  h _ _ ls  hp (lv_sub hl [] rfl) hf
theorem dX12_power_0 : decode cX12_power 0 = .ok (.iload_n 1, 1) := by decide +kernel
theorem dX12_power_1 : decode cX12_power 1 = .ok (.ifCond .ne 7, 3) := by decide +kernel
theorem dX12_power_4 : decode cX12_power 4 = .ok (.iconst 1, 1) := by decide +kernel
theorem dX12_power_5 : decode cX12_power 5 = .ok (.goto 15, 3) := by decide +kernel
theorem dX12_power_8 : decode cX12_power 8 = .ok (.iload_n 1, 1) := by decide +kernel
theorem dX12_power_9 : decode cX12_power 9 = .ok (.iconst 1, 1) := by decide +kernel
theorem dX12_power_10 : decode cX12_power 10 = .ok (.if_icmp .ne 7, 3) := by decide +kernel
theorem dX12_power_13 : decode cX12_power 13 = .ok (.iload_n 0, 1) := by decide +kernel
theorem dX12_power_14 : decode cX12_power 14 = .ok (.goto 6, 3) := by decide +kernel
theorem dX12_power_17 : decode cX12_power 17 = .ok (.iload_n 0, 1) := by decide +kernel
theorem dX12_power_18 : decode cX12_power 18 = .ok (.iload_n 0, 1) := by decide +kernel
theorem dX12_power_19 : decode cX12_power 19 = .ok (.imul, 1) := by decide +kernel
theorem dX12_power_20 : decode cX12_power 20 = .ok (.ireturn, 1) := by decide +kernel
def fX12_power (F : Nat) (a0 : Int) (a1 : Int) (h : HF) : RO :=
  zjn (fun (y20_0 : Int) (h : HF) => (
    some (y20_0, h)
  )) fun j20 =>
  if a1 = 0 then (
    j20 1 h
  ) else (
    if a1 = 1 then (
      j20 a0 h
    ) else (
      j20 (wr (a0 * a0)) h
    )
  )
set_option maxHeartbeats 4000000 in
set_option maxRecDepth 100000 in
theorem mX12_power (F : Nat) (l : Launch) (g : zG) (B : Nat) (h : HF) (a0 : Int) (a1 : Int) (ra0 : rng a0) (ra1 : rng a1) : CTi l g B yX12_power cX12_power 2 (some .int) 0 [.int (ii a0), .int (ii a1)] h (fX12_power F a0 a1 h) := by
  refine z_enterI (by decide) rfl (Nat.le_of_ble_eq_true rfl) ?_
  intro p e s m args below meth c ls o Q cx hp hl hf hQ
  have hl : lv_has ls 2 [(0, .int (ii a0)), (1, .int (ii a1))] := hl
  unfold fX12_power at hf
  refine lv_iload_n cx.1 cx.2.1 dX12_power_0 rfl (lv_at hl 1 rfl) ?_
  refine z_jn hf (fun j => ∀ (y20_0 : Int) (h : HF) (H : Heap) (locs : List Loc) (ls : Array Slot), rng y20_0 → Hp g B s h H locs → lv_has ls 2 [] → j y20_0 h = some o → W p l e (rmn 0) s m args below meth c H locs 0 0 Q (F0 m 20 ls [.int (ii y20_0)])) ?_ (fun j20 hj20 hf => ?_)
  · intro y20_0 h H locs ls ry20_0 hp hl hf
    rw [hQ]; exact z_iret cx hp ry20_0 dX12_power_20 hf
  refine z_if_ne cx ra1 (tgt := 8) dX12_power_1 (by decide) hf (fun _ hf => ?_) (fun _ hf => ?_)
  · refine z_iconst cx dX12_power_4 ?_
    refine lv_goto (tgt := 20) cx.1 cx.2.1 dX12_power_5 (by decide) ?_
    exact hj20 1 h _ _ ls (by decide) hp (lv_sub hl [] rfl) hf
  · refine lv_iload_n cx.1 cx.2.1 dX12_power_8 rfl (lv_at hl 1 rfl) ?_
    refine z_iconst cx dX12_power_9 ?_
    refine z_icmp_ne cx ra1 (by decide) (tgt := 17) dX12_power_10 (by decide) hf (fun _ hf => ?_) (fun _ hf => ?_)
    · refine lv_iload_n cx.1 cx.2.1 dX12_power_13 rfl (lv_at hl 0 rfl) ?_
      refine lv_goto (tgt := 20) cx.1 cx.2.1 dX12_power_14 (by decide) ?_
      exact hj20 a0 h _ _ ls ra0 hp (lv_sub hl [] rfl) hf
    · refine lv_iload_n cx.1 cx.2.1 dX12_power_17 rfl (lv_at hl 0 rfl) ?_
      refine lv_iload_n cx.1 cx.2.1 dX12_power_18 rfl (lv_at hl 0 rfl) ?_
      refine z_imul cx dX12_power_19 ?_
      exact hj20 (wr (a0 * a0)) h _ _ ls (rng_wr _) hp (lv_sub hl [] rfl) hf
theorem dX12_arity_0 : decode cX12_arity 0 = .ok (.aload_n 0, 1) := by decide +kernel
theorem dX12_arity_1 : decode cX12_arity 1 = .ok (.getfield 22, 3) := by decide +kernel
theorem dX12_arity_4 : decode cX12_arity 4 = .ok (.iconst 4, 1) := by decide +kernel
theorem dX12_arity_5 : decode cX12_arity 5 = .ok (.iload_n 1, 1) := by decide +kernel
theorem dX12_arity_6 : decode cX12_arity 6 = .ok (.imul, 1) := by decide +kernel
theorem dX12_arity_7 : decode cX12_arity 7 = .ok (.iload_n 2, 1) := by decide +kernel
theorem dX12_arity_8 : decode cX12_arity 8 = .ok (.iadd, 1) := by decide +kernel
theorem dX12_arity_9 : decode cX12_arity 9 = .ok (.iaload, 1) := by decide +kernel
theorem dX12_arity_10 : decode cX12_arity 10 = .ok (.ireturn, 1) := by decide +kernel
def fX12_arity (F : Nat) (a0 : Nat) (a1 : Int) (a2 : Int) (h : HF) : RO :=
  zrd h (a0 + 5) (wr ((wr (4 * a1)) + a2)) fun x1 =>
  some (x1, h)
set_option maxHeartbeats 4000000 in
set_option maxRecDepth 100000 in
theorem mX12_arity (F : Nat) (l : Launch) (g : zG) (B : Nat) (h : HF) (a0 : Nat) (a1 : Int) (a2 : Int) (ra0 : kt a0 = 15) (ra1 : rng a1) (ra2 : rng a2) : CTi l g B yX12_arity cX12_arity 3 (some .int) 0 [.ref (B + a0), .int (ii a1), .int (ii a2)] h (fX12_arity F a0 a1 a2 h) := by
  refine z_enterI (by decide) rfl (Nat.le_of_ble_eq_true rfl) ?_
  intro p e s m args below meth c ls o Q cx hp hl hf hQ
  have hl : lv_has ls 3 [(0, .ref (B + a0)), (1, .int (ii a1)), (2, .int (ii a2))] := hl
  unfold fX12_arity at hf
  refine lv_aload_n cx.1 cx.2.1 dX12_arity_0 rfl (lv_at hl 0 rfl) ?_
  refine z_gets cx hp (T := TX12) 12 8 (a0 + 5) rfl zin_12 (by decide) (by decide) ra0 rfl fl_X12_22 dX12_arity_1 ?_
  refine z_iconst cx dX12_arity_4 ?_
  refine lv_iload_n cx.1 cx.2.1 dX12_arity_5 rfl (lv_at hl 1 rfl) ?_
  refine z_imul cx dX12_arity_6 ?_
  refine lv_iload_n cx.1 cx.2.1 dX12_arity_7 rfl (lv_at hl 2 rfl) ?_
  refine z_iadd cx dX12_arity_8 ?_
  refine z_iald cx hp (zs_12_8 a0 (kt_lt ra0 (by decide)) ra0) (rng_wr _) dX12_arity_9 hf (fun x1 rx1 hf => ?_)
  rw [hQ]; exact z_iret cx hp rx1 dX12_arity_10 hf
theorem dX12_cellsOf_0 : decode cX12_cellsOf 0 = .ok (.iconst 0, 1) := by decide +kernel
theorem dX12_cellsOf_1 : decode cX12_cellsOf 1 = .ok (.istore_n 2, 1) := by decide +kernel
theorem dX12_cellsOf_2 : decode cX12_cellsOf 2 = .ok (.iconst 0, 1) := by decide +kernel
theorem dX12_cellsOf_3 : decode cX12_cellsOf 3 = .ok (.istore_n 3, 1) := by decide +kernel
theorem dX12_cellsOf_4 : decode cX12_cellsOf 4 = .ok (.iload_n 3, 1) := by decide +kernel
theorem dX12_cellsOf_5 : decode cX12_cellsOf 5 = .ok (.aload_n 0, 1) := by decide +kernel
theorem dX12_cellsOf_6 : decode cX12_cellsOf 6 = .ok (.getfield 19, 3) := by decide +kernel
theorem dX12_cellsOf_9 : decode cX12_cellsOf 9 = .ok (.iload_n 1, 1) := by decide +kernel
theorem dX12_cellsOf_10 : decode cX12_cellsOf 10 = .ok (.iaload, 1) := by decide +kernel
theorem dX12_cellsOf_11 : decode cX12_cellsOf 11 = .ok (.if_icmp .ge 27, 3) := by decide +kernel
theorem dX12_cellsOf_14 : decode cX12_cellsOf 14 = .ok (.iload_n 2, 1) := by decide +kernel
theorem dX12_cellsOf_15 : decode cX12_cellsOf 15 = .ok (.aload_n 0, 1) := by decide +kernel
theorem dX12_cellsOf_16 : decode cX12_cellsOf 16 = .ok (.getfield 16, 3) := by decide +kernel
theorem dX12_cellsOf_19 : decode cX12_cellsOf 19 = .ok (.iload_n 1, 1) := by decide +kernel
theorem dX12_cellsOf_20 : decode cX12_cellsOf 20 = .ok (.iaload, 1) := by decide +kernel
theorem dX12_cellsOf_21 : decode cX12_cellsOf 21 = .ok (.aload_n 0, 1) := by decide +kernel
theorem dX12_cellsOf_22 : decode cX12_cellsOf 22 = .ok (.iload_n 1, 1) := by decide +kernel
theorem dX12_cellsOf_23 : decode cX12_cellsOf 23 = .ok (.iload_n 3, 1) := by decide +kernel
theorem dX12_cellsOf_24 : decode cX12_cellsOf 24 = .ok (.invokevirtual 129, 3) := by decide +kernel
theorem dX12_cellsOf_27 : decode cX12_cellsOf 27 = .ok (.invokestatic 133, 3) := by decide +kernel
theorem dX12_cellsOf_30 : decode cX12_cellsOf 30 = .ok (.iadd, 1) := by decide +kernel
theorem dX12_cellsOf_31 : decode cX12_cellsOf 31 = .ok (.istore_n 2, 1) := by decide +kernel
theorem dX12_cellsOf_32 : decode cX12_cellsOf 32 = .ok (.iinc 3 1, 3) := by decide +kernel
theorem dX12_cellsOf_35 : decode cX12_cellsOf 35 = .ok (.goto (-31), 3) := by decide +kernel
theorem dX12_cellsOf_38 : decode cX12_cellsOf 38 = .ok (.iload_n 2, 1) := by decide +kernel
theorem dX12_cellsOf_39 : decode cX12_cellsOf 39 = .ok (.ireturn, 1) := by decide +kernel
def LX12_cellsOf_4 (F : Nat) (u0 : Nat) (u1 : Int) (k38 : Int → HF → RO) : Nat → Int → Int → HF → RO
  | 0, _, _, _ => none
  | n + 1, v2, v3, h =>
    zrd h (u0 + 4) u1 fun x1 =>
    if v3 < x1 then (
      zrd h (u0 + 3) u1 fun x2 =>
      zbd (fX12_arity F u0 u1 v3 h) fun r3 h =>
      zbd (fX12_power F x2 r3 h) fun r4 h =>
      zlet (wr (v2 + r4)) fun x5 =>
      zlet (wr (v3 + 1)) fun x6 =>
      LX12_cellsOf_4 F u0 u1 k38 n x5 x6 h
    ) else (
      k38 v2 h
    )
set_option maxHeartbeats 4000000 in
set_option maxRecDepth 100000 in
theorem wX12_cellsOf_4 {p : Program} {l : Launch} {e : Env} {s : State} {m : MethodId} {args : Array Value} {below : List Frame} {meth : Method} {c : Code} {Q : State → Prop} {g : zG} {B : Nat} {o : Int × HF} (F : Nat) (cx : Cx p s m args meth c cX12_cellsOf 4 RX12 (some .int) g B) (u0 : Nat) (ru0 : kt u0 = 15) (u1 : Int) (ru1 : rng u1) (k38 : Int → HF → RO) (hk38 : ∀ (x2 : Int) (h : HF) (H : Heap) (locs : List Loc) (ls : Array Slot), rng x2 → Hp g B s h H locs → lv_has ls 4 [(2, .int (ii x2))] → k38 x2 h = some o → W p l e (rmn 1) s m args below meth c H locs 0 0 Q (F0 m 38 ls [])) : ∀ (n : Nat) (v2 : Int) (v3 : Int) (h : HF) (H : Heap) (locs : List Loc) (ls : Array Slot), rng v2 → rng v3 → Hp g B s h H locs → lv_has ls 4 [(0, .ref (B + u0)), (1, .int (ii u1)), (2, .int (ii v2)), (3, .int (ii v3))] → LX12_cellsOf_4 F u0 u1 k38 n v2 v3 h = some o → W p l e (rmn 1) s m args below meth c H locs 0 0 Q (F0 m 4 ls []) := by
  intro n
  induction n with
  | zero =>
    intro v2 v3 h H locs ls rv2 rv3 hp hl hf
    cases hf
  | succ n ih =>
    intro v2 v3 h H locs ls rv2 rv3 hp hl hf
    rw [LX12_cellsOf_4] at hf
    refine lv_iload_n cx.1 cx.2.1 dX12_cellsOf_4 rfl (lv_at hl 3 rfl) ?_
    refine lv_aload_n cx.1 cx.2.1 dX12_cellsOf_5 rfl (lv_at hl 0 rfl) ?_
    refine z_gets cx hp (T := TX12) 12 7 (u0 + 4) rfl zin_12 (by decide) (by decide) ru0 rfl fl_X12_19 dX12_cellsOf_6 ?_
    refine lv_iload_n cx.1 cx.2.1 dX12_cellsOf_9 rfl (lv_at hl 1 rfl) ?_
    refine z_iald cx hp (zs_12_7 u0 (kt_lt ru0 (by decide)) ru0) ru1 dX12_cellsOf_10 hf (fun x1 rx1 hf => ?_)
    refine z_icmp_ge cx rv3 rx1 (tgt := 38) dX12_cellsOf_11 (by decide) hf (fun _ hf => ?_) (fun _ hf => ?_)
    · refine lv_iload_n cx.1 cx.2.1 dX12_cellsOf_14 rfl (lv_at hl 2 rfl) ?_
      refine lv_aload_n cx.1 cx.2.1 dX12_cellsOf_15 rfl (lv_at hl 0 rfl) ?_
      refine z_gets cx hp (T := TX12) 12 6 (u0 + 3) rfl zin_12 (by decide) (by decide) ru0 rfl fl_X12_16 dX12_cellsOf_16 ?_
      refine lv_iload_n cx.1 cx.2.1 dX12_cellsOf_19 rfl (lv_at hl 1 rfl) ?_
      refine z_iald cx hp (zs_12_6 u0 (kt_lt ru0 (by decide)) ru0) ru1 dX12_cellsOf_20 hf (fun x2 rx2 hf => ?_)
      refine lv_aload_n cx.1 cx.2.1 dX12_cellsOf_21 rfl (lv_at hl 0 rfl) ?_
      refine lv_iload_n cx.1 cx.2.1 dX12_cellsOf_22 rfl (lv_at hl 1 rfl) ?_
      refine lv_iload_n cx.1 cx.2.1 dX12_cellsOf_23 rfl (lv_at hl 3 rfl) ?_
      refine z_ci cx hp (fun o' hx => zrunV (n := 1) (As := [.int (ii u1), .int (ii v3)]) (rest := [.int (ii x2), .int (ii v2)]) cx hp (mX12_arity F l g B h u0 u1 v3 ru0 ru1 rv3 o' hx) 12 ru0 (by decide) rfl vw_X12_arity ml_X12_129 (by decide) rfl hl.1 rfl (Nat.le_of_ble_eq_true rfl) dX12_cellsOf_24) hf (fun r3 h H locs rr3 hp hf => ?_)
      refine z_ci cx hp (fun o' hx => zrunS (n := 1) (As := [.int (ii x2), .int (ii r3)]) (rest := [.int (ii v2)]) cx hp (mX12_power F l g B h x2 r3 rx2 rr3 o' hx) sw_X12_power ml_X12_133 (by decide) rfl hl.1 rfl (Nat.le_of_ble_eq_true rfl) dX12_cellsOf_27) hf (fun r4 h H locs rr4 hp hf => ?_)
      refine z_iadd cx dX12_cellsOf_30 ?_
      refine z_let (rng_wr _) hf (fun x5 rx5 hf => ?_)
      refine lv_istore_n (lv' := [(2, .int (ii x5)), (0, .ref (B + u0)), (1, .int (ii u1)), (3, .int (ii v3))]) cx.1 cx.2.1 dX12_cellsOf_31 rfl hl (by decide) rfl (fun ls hl => ?_)
      refine z_iinc cx (fun x6 => [(3, .int (ii x6)), (2, .int (ii x5)), (0, .ref (B + u0)), (1, .int (ii u1))]) dX12_cellsOf_32 hl (k := 3) rfl (by decide) (fun _ => rfl) hf (fun x6 rx6 hf ls hl => ?_)
      refine lv_goto (tgt := 4) cx.1 cx.2.1 dX12_cellsOf_35 (by decide) ?_
      exact ih x5 x6 h _ _ ls rx5 rx6 hp (lv_sub hl [2, 3, 1, 0] rfl) hf
    · exact hk38 v2 h _ _ ls rv2 hp (lv_sub hl [2] rfl) hf
def fX12_cellsOf (F : Nat) (a0 : Nat) (a1 : Int) (h : HF) : RO :=
  zjn (fun (x38_2 : Int) (h : HF) => (
    some (x38_2, h)
  )) fun j38 =>
  LX12_cellsOf_4 F a0 a1 j38 F 0 0 h
set_option maxHeartbeats 4000000 in
set_option maxRecDepth 100000 in
theorem mX12_cellsOf (F : Nat) (l : Launch) (g : zG) (B : Nat) (h : HF) (a0 : Nat) (a1 : Int) (ra0 : kt a0 = 15) (ra1 : rng a1) : CTi l g B yX12_cellsOf cX12_cellsOf 4 (some .int) 1 [.ref (B + a0), .int (ii a1)] h (fX12_cellsOf F a0 a1 h) := by
  refine z_enterI (by decide) rfl (Nat.le_of_ble_eq_true rfl) ?_
  intro p e s m args below meth c ls o Q cx hp hl hf hQ
  have hl : lv_has ls 4 [(0, .ref (B + a0)), (1, .int (ii a1))] := hl
  unfold fX12_cellsOf at hf
  refine z_iconst cx dX12_cellsOf_0 ?_
  refine lv_istore_n (lv' := [(2, .int (ii 0)), (0, .ref (B + a0)), (1, .int (ii a1))]) cx.1 cx.2.1 dX12_cellsOf_1 rfl hl (by decide) rfl (fun ls hl => ?_)
  refine z_iconst cx dX12_cellsOf_2 ?_
  refine lv_istore_n (lv' := [(3, .int (ii 0)), (2, .int (ii 0)), (0, .ref (B + a0)), (1, .int (ii a1))]) cx.1 cx.2.1 dX12_cellsOf_3 rfl hl (by decide) rfl (fun ls hl => ?_)
  refine z_jn hf (fun j => ∀ (x38_2 : Int) (h : HF) (H : Heap) (locs : List Loc) (ls : Array Slot), rng x38_2 → Hp g B s h H locs → lv_has ls 4 [(2, .int (ii x38_2))] → j x38_2 h = some o → W p l e (rmn 1) s m args below meth c H locs 0 0 Q (F0 m 38 ls [])) ?_ (fun j38 hj38 hf => ?_)
  · intro x38_2 h H locs ls rx38_2 hp hl hf
    refine lv_iload_n cx.1 cx.2.1 dX12_cellsOf_38 rfl (lv_at hl 0 rfl) ?_
    rw [hQ]; exact z_iret cx hp rx38_2 dX12_cellsOf_39 hf
  exact wX12_cellsOf_4 F cx a0 ra0 a1 ra1 j38 hj38 F 0 0 h _ _ ls (by decide) (by decide) hp (lv_sub hl [2, 3, 1, 0] rfl) hf
theorem dX12_at_0 : decode cX12_at 0 = .ok (.aload_n 0, 1) := by decide +kernel
theorem dX12_at_1 : decode cX12_at 1 = .ok (.iload_n 1, 1) := by decide +kernel
theorem dX12_at_2 : decode cX12_at 2 = .ok (.iload_n 2, 1) := by decide +kernel
theorem dX12_at_3 : decode cX12_at 3 = .ok (.invokevirtual 129, 3) := by decide +kernel
theorem dX12_at_6 : decode cX12_at 6 = .ok (.ifCond .ne 7, 3) := by decide +kernel
theorem dX12_at_9 : decode cX12_at 9 = .ok (.iconst 0, 1) := by decide +kernel
theorem dX12_at_10 : decode cX12_at 10 = .ok (.goto 28, 3) := by decide +kernel
theorem dX12_at_13 : decode cX12_at 13 = .ok (.aload_n 0, 1) := by decide +kernel
theorem dX12_at_14 : decode cX12_at 14 = .ok (.iload_n 1, 1) := by decide +kernel
theorem dX12_at_15 : decode cX12_at 15 = .ok (.iload_n 2, 1) := by decide +kernel
theorem dX12_at_16 : decode cX12_at 16 = .ok (.invokevirtual 129, 3) := by decide +kernel
theorem dX12_at_19 : decode cX12_at 19 = .ok (.iconst 1, 1) := by decide +kernel
theorem dX12_at_20 : decode cX12_at 20 = .ok (.if_icmp .ne 7, 3) := by decide +kernel
theorem dX12_at_23 : decode cX12_at 23 = .ok (.iload_n 3, 1) := by decide +kernel
theorem dX12_at_24 : decode cX12_at 24 = .ok (.goto 14, 3) := by decide +kernel
theorem dX12_at_27 : decode cX12_at 27 = .ok (.iload_n 3, 1) := by decide +kernel
theorem dX12_at_28 : decode cX12_at 28 = .ok (.aload_n 0, 1) := by decide +kernel
theorem dX12_at_29 : decode cX12_at 29 = .ok (.getfield 16, 3) := by decide +kernel
theorem dX12_at_32 : decode cX12_at 32 = .ok (.iload_n 1, 1) := by decide +kernel
theorem dX12_at_33 : decode cX12_at 33 = .ok (.iaload, 1) := by decide +kernel
theorem dX12_at_34 : decode cX12_at 34 = .ok (.imul, 1) := by decide +kernel
theorem dX12_at_35 : decode cX12_at 35 = .ok (.iload 4, 2) := by decide +kernel
theorem dX12_at_37 : decode cX12_at 37 = .ok (.iadd, 1) := by decide +kernel
theorem dX12_at_38 : decode cX12_at 38 = .ok (.istore 5, 2) := by decide +kernel
theorem dX12_at_40 : decode cX12_at 40 = .ok (.sipush 196, 3) := by decide +kernel
theorem dX12_at_43 : decode cX12_at 43 = .ok (.iload_n 1, 1) := by decide +kernel
theorem dX12_at_44 : decode cX12_at 44 = .ok (.imul, 1) := by decide +kernel
theorem dX12_at_45 : decode cX12_at 45 = .ok (.bipush 49, 2) := by decide +kernel
theorem dX12_at_47 : decode cX12_at 47 = .ok (.iload_n 2, 1) := by decide +kernel
theorem dX12_at_48 : decode cX12_at 48 = .ok (.imul, 1) := by decide +kernel
theorem dX12_at_49 : decode cX12_at 49 = .ok (.iadd, 1) := by decide +kernel
theorem dX12_at_50 : decode cX12_at 50 = .ok (.iload 5, 2) := by decide +kernel
theorem dX12_at_52 : decode cX12_at 52 = .ok (.iadd, 1) := by decide +kernel
theorem dX12_at_53 : decode cX12_at 53 = .ok (.ireturn, 1) := by decide +kernel
def fX12_at (F : Nat) (a0 : Nat) (a1 : Int) (a2 : Int) (a3 : Int) (a4 : Int) (h : HF) : RO :=
  zbd (fX12_arity F a0 a1 a2 h) fun r1 h =>
  zjn (fun (y38_0 : Int) (h : HF) => (
    some (wr ((wr ((wr (196 * a1)) + (wr (49 * a2)))) + y38_0), h)
  )) fun j38 =>
  if r1 = 0 then (
    j38 0 h
  ) else (
    zbd (fX12_arity F a0 a1 a2 h) fun r2 h =>
    if r2 = 1 then (
      j38 a3 h
    ) else (
      zrd h (a0 + 3) a1 fun x3 =>
      j38 (wr ((wr (a3 * x3)) + a4)) h
    )
  )
set_option maxHeartbeats 4000000 in
set_option maxRecDepth 100000 in
theorem mX12_at (F : Nat) (l : Launch) (g : zG) (B : Nat) (h : HF) (a0 : Nat) (a1 : Int) (a2 : Int) (a3 : Int) (a4 : Int) (ra0 : kt a0 = 15) (ra1 : rng a1) (ra2 : rng a2) (ra3 : rng a3) (ra4 : rng a4) : CTi l g B yX12_at cX12_at 6 (some .int) 1 [.ref (B + a0), .int (ii a1), .int (ii a2), .int (ii a3), .int (ii a4)] h (fX12_at F a0 a1 a2 a3 a4 h) := by
  refine z_enterI (by decide) rfl (Nat.le_of_ble_eq_true rfl) ?_
  intro p e s m args below meth c ls o Q cx hp hl hf hQ
  have hl : lv_has ls 6 [(0, .ref (B + a0)), (1, .int (ii a1)), (2, .int (ii a2)), (3, .int (ii a3)), (4, .int (ii a4))] := hl
  unfold fX12_at at hf
  refine lv_aload_n cx.1 cx.2.1 dX12_at_0 rfl (lv_at hl 0 rfl) ?_
  refine lv_iload_n cx.1 cx.2.1 dX12_at_1 rfl (lv_at hl 1 rfl) ?_
  refine lv_iload_n cx.1 cx.2.1 dX12_at_2 rfl (lv_at hl 2 rfl) ?_
  refine z_ci cx hp (fun o' hx => zrunV (n := 1) (As := [.int (ii a1), .int (ii a2)]) (rest := []) cx hp (mX12_arity F l g B h a0 a1 a2 ra0 ra1 ra2 o' hx) 12 ra0 (by decide) rfl vw_X12_arity ml_X12_129 (by decide) rfl hl.1 rfl (Nat.le_of_ble_eq_true rfl) dX12_at_3) hf (fun r1 h H locs rr1 hp hf => ?_)
  refine z_jn hf (fun j => ∀ (y38_0 : Int) (h : HF) (H : Heap) (locs : List Loc) (ls : Array Slot), rng y38_0 → Hp g B s h H locs → lv_has ls 6 [(1, .int (ii a1)), (2, .int (ii a2))] → j y38_0 h = some o → W p l e (rmn 1) s m args below meth c H locs 0 0 Q (F0 m 38 ls [.int (ii y38_0)])) ?_ (fun j38 hj38 hf => ?_)
  · intro y38_0 h H locs ls ry38_0 hp hl hf
    refine lv_istore (lv' := [(5, .int (ii y38_0)), (1, .int (ii a1)), (2, .int (ii a2))]) cx.1 cx.2.1 dX12_at_38 hl (by decide) rfl (fun ls hl => ?_)
    refine z_sipush cx (by decide) dX12_at_40 ?_
    refine lv_iload_n cx.1 cx.2.1 dX12_at_43 rfl (lv_at hl 1 rfl) ?_
    refine z_imul cx dX12_at_44 ?_
    refine z_bipush cx (by decide) dX12_at_45 ?_
    refine lv_iload_n cx.1 cx.2.1 dX12_at_47 rfl (lv_at hl 2 rfl) ?_
    refine z_imul cx dX12_at_48 ?_
    refine z_iadd cx dX12_at_49 ?_
    refine lv_iload cx.1 cx.2.1 dX12_at_50 (lv_at hl 0 rfl) ?_
    refine z_iadd cx dX12_at_52 ?_
    rw [hQ]; exact z_iret cx hp (rng_wr _) dX12_at_53 hf
  refine z_if_ne cx rr1 (tgt := 13) dX12_at_6 (by decide) hf (fun _ hf => ?_) (fun _ hf => ?_)
  · refine z_iconst cx dX12_at_9 ?_
    refine lv_goto (tgt := 38) cx.1 cx.2.1 dX12_at_10 (by decide) ?_
    exact hj38 0 h _ _ ls (by decide) hp (lv_sub hl [1, 2] rfl) hf
  · refine lv_aload_n cx.1 cx.2.1 dX12_at_13 rfl (lv_at hl 0 rfl) ?_
    refine lv_iload_n cx.1 cx.2.1 dX12_at_14 rfl (lv_at hl 1 rfl) ?_
    refine lv_iload_n cx.1 cx.2.1 dX12_at_15 rfl (lv_at hl 2 rfl) ?_
    refine z_ci cx hp (fun o' hx => zrunV (n := 1) (As := [.int (ii a1), .int (ii a2)]) (rest := []) cx hp (mX12_arity F l g B h a0 a1 a2 ra0 ra1 ra2 o' hx) 12 ra0 (by decide) rfl vw_X12_arity ml_X12_129 (by decide) rfl hl.1 rfl (Nat.le_of_ble_eq_true rfl) dX12_at_16) hf (fun r2 h H locs rr2 hp hf => ?_)
    refine z_iconst cx dX12_at_19 ?_
    refine z_icmp_ne cx rr2 (by decide) (tgt := 27) dX12_at_20 (by decide) hf (fun _ hf => ?_) (fun _ hf => ?_)
    · refine lv_iload_n cx.1 cx.2.1 dX12_at_23 rfl (lv_at hl 3 rfl) ?_
      refine lv_goto (tgt := 38) cx.1 cx.2.1 dX12_at_24 (by decide) ?_
      exact hj38 a3 h _ _ ls ra3 hp (lv_sub hl [1, 2] rfl) hf
    · refine lv_iload_n cx.1 cx.2.1 dX12_at_27 rfl (lv_at hl 3 rfl) ?_
      refine lv_aload_n cx.1 cx.2.1 dX12_at_28 rfl (lv_at hl 0 rfl) ?_
      refine z_gets cx hp (T := TX12) 12 6 (a0 + 3) rfl zin_12 (by decide) (by decide) ra0 rfl fl_X12_16 dX12_at_29 ?_
      refine lv_iload_n cx.1 cx.2.1 dX12_at_32 rfl (lv_at hl 1 rfl) ?_
      refine z_iald cx hp (zs_12_6 a0 (kt_lt ra0 (by decide)) ra0) ra1 dX12_at_33 hf (fun x3 rx3 hf => ?_)
      refine z_imul cx dX12_at_34 ?_
      refine lv_iload cx.1 cx.2.1 dX12_at_35 (lv_at hl 4 rfl) ?_
      refine z_iadd cx dX12_at_37 ?_
      exact hj38 (wr ((wr (a3 * x3)) + a4)) h _ _ ls (rng_wr _) hp (lv_sub hl [1, 2] rfl) hf
