theorem dX12_count_0 : decode cX12_count 0 = .ok (.aload_n 0, 1) := by decide +kernel
theorem dX12_count_1 : decode cX12_count 1 = .ok (.iconst 0, 1) := by decide +kernel
theorem dX12_count_2 : decode cX12_count 2 = .ok (.putfield 115, 3) := by decide +kernel
theorem dX12_count_5 : decode cX12_count 5 = .ok (.iconst 0, 1) := by decide +kernel
theorem dX12_count_6 : decode cX12_count 6 = .ok (.istore_n 2, 1) := by decide +kernel
theorem dX12_count_7 : decode cX12_count 7 = .ok (.iload_n 1, 1) := by decide +kernel
theorem dX12_count_8 : decode cX12_count 8 = .ok (.tableswitch 116 0 4 #[36, 41, 46, 51, 84], 36) := by decide +kernel
theorem dX12_count_124 : decode cX12_count 124 = .ok (.bipush (-3), 2) := by decide +kernel
theorem dX12_count_126 : decode cX12_count 126 = .ok (.ireturn, 1) := by decide +kernel
theorem dX12_count_92 : decode cX12_count 92 = .ok (.iconst 0, 1) := by decide +kernel
theorem dX12_count_93 : decode cX12_count 93 = .ok (.istore_n 3, 1) := by decide +kernel
theorem dX12_count_94 : decode cX12_count 94 = .ok (.iload_n 3, 1) := by decide +kernel
theorem dX12_count_95 : decode cX12_count 95 = .ok (.iconst 4, 1) := by decide +kernel
theorem dX12_count_96 : decode cX12_count 96 = .ok (.if_icmp .ge 26, 3) := by decide +kernel
theorem dX12_count_99 : decode cX12_count 99 = .ok (.iload_n 2, 1) := by decide +kernel
theorem dX12_count_100 : decode cX12_count 100 = .ok (.aload_n 0, 1) := by decide +kernel
theorem dX12_count_101 : decode cX12_count 101 = .ok (.getfield 79, 3) := by decide +kernel
theorem dX12_count_104 : decode cX12_count 104 = .ok (.iload_n 3, 1) := by decide +kernel
theorem dX12_count_105 : decode cX12_count 105 = .ok (.iaload, 1) := by decide +kernel
theorem dX12_count_106 : decode cX12_count 106 = .ok (.ifCond .le 7, 3) := by decide +kernel
theorem dX12_count_109 : decode cX12_count 109 = .ok (.iconst 1, 1) := by decide +kernel
theorem dX12_count_110 : decode cX12_count 110 = .ok (.goto 4, 3) := by decide +kernel
theorem dX12_count_113 : decode cX12_count 113 = .ok (.iconst 0, 1) := by decide +kernel
theorem dX12_count_114 : decode cX12_count 114 = .ok (.iadd, 1) := by decide +kernel
theorem dX12_count_115 : decode cX12_count 115 = .ok (.istore_n 2, 1) := by decide +kernel
theorem dX12_count_116 : decode cX12_count 116 = .ok (.iinc 3 1, 3) := by decide +kernel
theorem dX12_count_119 : decode cX12_count 119 = .ok (.goto (-25), 3) := by decide +kernel
theorem dX12_count_122 : decode cX12_count 122 = .ok (.iload_n 2, 1) := by decide +kernel
theorem dX12_count_123 : decode cX12_count 123 = .ok (.ireturn, 1) := by decide +kernel
theorem dX12_count_59 : decode cX12_count 59 = .ok (.iconst 0, 1) := by decide +kernel
theorem dX12_count_60 : decode cX12_count 60 = .ok (.istore_n 3, 1) := by decide +kernel
theorem dX12_count_61 : decode cX12_count 61 = .ok (.iload_n 3, 1) := by decide +kernel
theorem dX12_count_62 : decode cX12_count 62 = .ok (.bipush 8, 2) := by decide +kernel
theorem dX12_count_64 : decode cX12_count 64 = .ok (.if_icmp .ge 26, 3) := by decide +kernel
theorem dX12_count_67 : decode cX12_count 67 = .ok (.iload_n 2, 1) := by decide +kernel
theorem dX12_count_68 : decode cX12_count 68 = .ok (.aload_n 0, 1) := by decide +kernel
theorem dX12_count_69 : decode cX12_count 69 = .ok (.getfield 16, 3) := by decide +kernel
theorem dX12_count_72 : decode cX12_count 72 = .ok (.iload_n 3, 1) := by decide +kernel
theorem dX12_count_73 : decode cX12_count 73 = .ok (.iaload, 1) := by decide +kernel
theorem dX12_count_74 : decode cX12_count 74 = .ok (.ifCond .le 7, 3) := by decide +kernel
theorem dX12_count_77 : decode cX12_count 77 = .ok (.iconst 1, 1) := by decide +kernel
theorem dX12_count_78 : decode cX12_count 78 = .ok (.goto 4, 3) := by decide +kernel
theorem dX12_count_81 : decode cX12_count 81 = .ok (.iconst 0, 1) := by decide +kernel
theorem dX12_count_82 : decode cX12_count 82 = .ok (.iadd, 1) := by decide +kernel
theorem dX12_count_83 : decode cX12_count 83 = .ok (.istore_n 2, 1) := by decide +kernel
theorem dX12_count_84 : decode cX12_count 84 = .ok (.iinc 3 1, 3) := by decide +kernel
theorem dX12_count_87 : decode cX12_count 87 = .ok (.goto (-26), 3) := by decide +kernel
theorem dX12_count_90 : decode cX12_count 90 = .ok (.iload_n 2, 1) := by decide +kernel
theorem dX12_count_91 : decode cX12_count 91 = .ok (.ireturn, 1) := by decide +kernel
theorem dX12_count_54 : decode cX12_count 54 = .ok (.aload_n 0, 1) := by decide +kernel
theorem dX12_count_55 : decode cX12_count 55 = .ok (.getfield 143, 3) := by decide +kernel
theorem dX12_count_58 : decode cX12_count 58 = .ok (.ireturn, 1) := by decide +kernel
theorem dX12_count_49 : decode cX12_count 49 = .ok (.aload_n 0, 1) := by decide +kernel
theorem dX12_count_50 : decode cX12_count 50 = .ok (.getfield 126, 3) := by decide +kernel
theorem dX12_count_53 : decode cX12_count 53 = .ok (.ireturn, 1) := by decide +kernel
theorem dX12_count_44 : decode cX12_count 44 = .ok (.aload_n 0, 1) := by decide +kernel
theorem dX12_count_45 : decode cX12_count 45 = .ok (.getfield 119, 3) := by decide +kernel
theorem dX12_count_48 : decode cX12_count 48 = .ok (.ireturn, 1) := by decide +kernel
def LX12_count_61 (F : Nat) (u0 : Nat) (k90 : Int → HF → RO) : Nat → Int → Int → HF → RO
  | 0, _, _, _ => none
  | n + 1, v2, v3, h =>
    if v3 < 8 then (
      zrd h (u0 + 3) v3 fun x8 =>
      zjn (fun (x82_3 : Int) (y82_0 : Int) (y82_1 : Int) (h : HF) => (
        zlet (wr (y82_1 + y82_0)) fun x9 =>
        zlet (wr (x82_3 + 1)) fun x10 =>
        LX12_count_61 F u0 k90 n x9 x10 h
      )) fun j82 =>
      if 0 < x8 then (
        j82 v3 1 v2 h
      ) else (
        j82 v3 0 v2 h
      )
    ) else (
      k90 v2 h
    )
set_option maxHeartbeats 4000000 in
set_option maxRecDepth 100000 in
theorem wX12_count_61 {p : Program} {l : Launch} {e : Env} {s : State} {m : MethodId} {args : Array Value} {below : List Frame} {meth : Method} {c : Code} {Q : State → Prop} {g : zG} {B : Nat} {o : Int × HF} (F : Nat) (cx : Cx p s m args meth c cX12_count 4 RX12 (some .int) g B) (u0 : Nat) (ru0 : kt u0 = 15) (k90 : Int → HF → RO) (hk90 : ∀ (x2 : Int) (h : HF) (H : Heap) (locs : List Loc) (ls : Array Slot), rng x2 → Hp g B s h H locs → lv_has ls 4 [(2, .int (ii x2))] → k90 x2 h = some o → W p l e (rmn 0) s m args below meth c H locs 0 0 Q (F0 m 90 ls [])) : ∀ (n : Nat) (v2 : Int) (v3 : Int) (h : HF) (H : Heap) (locs : List Loc) (ls : Array Slot), rng v2 → rng v3 → Hp g B s h H locs → lv_has ls 4 [(0, .ref (B + u0)), (2, .int (ii v2)), (3, .int (ii v3))] → LX12_count_61 F u0 k90 n v2 v3 h = some o → W p l e (rmn 0) s m args below meth c H locs 0 0 Q (F0 m 61 ls []) := by
  intro n
  induction n with
  | zero =>
    intro v2 v3 h H locs ls rv2 rv3 hp hl hf
    cases hf
  | succ n ih =>
    intro v2 v3 h H locs ls rv2 rv3 hp hl hf
    rw [LX12_count_61] at hf
    refine lv_iload_n cx.1 cx.2.1 dX12_count_61 rfl (lv_at hl 2 rfl) ?_
    refine z_bipush cx (by decide) dX12_count_62 ?_
    refine z_icmp_ge cx rv3 (by decide) (tgt := 90) dX12_count_64 (by decide) hf (fun _ hf => ?_) (fun _ hf => ?_)
    · refine lv_iload_n cx.1 cx.2.1 dX12_count_67 rfl (lv_at hl 1 rfl) ?_
      refine lv_aload_n cx.1 cx.2.1 dX12_count_68 rfl (lv_at hl 0 rfl) ?_
      refine z_gets cx hp (T := TX12) 12 6 (u0 + 3) rfl zin_12 (by decide) (by decide) ru0 rfl fl_X12_16 dX12_count_69 ?_
      refine lv_iload_n cx.1 cx.2.1 dX12_count_72 rfl (lv_at hl 2 rfl) ?_
      refine z_iald cx hp (zs_12_6 u0 (kt_lt ru0 (by decide)) ru0) rv3 dX12_count_73 hf (fun x8 rx8 hf => ?_)
      refine z_jn hf (fun j => ∀ (x82_3 : Int) (y82_0 : Int) (y82_1 : Int) (h : HF) (H : Heap) (locs : List Loc) (ls : Array Slot), rng x82_3 → rng y82_0 → rng y82_1 → Hp g B s h H locs → lv_has ls 4 [(0, .ref (B + u0)), (3, .int (ii x82_3))] → j x82_3 y82_0 y82_1 h = some o → W p l e (rmn 0) s m args below meth c H locs 0 0 Q (F0 m 82 ls [.int (ii y82_0), .int (ii y82_1)])) ?_ (fun j82 hj82 hf => ?_)
      · intro x82_3 y82_0 y82_1 h H locs ls rx82_3 ry82_0 ry82_1 hp hl hf
        refine z_iadd cx dX12_count_82 ?_
        refine z_let (rng_wr _) hf (fun x9 rx9 hf => ?_)
        refine lv_istore_n (lv' := [(2, .int (ii x9)), (0, .ref (B + u0)), (3, .int (ii x82_3))]) cx.1 cx.2.1 dX12_count_83 rfl hl (by decide) rfl (fun ls hl => ?_)
        refine z_iinc cx (fun x10 => [(3, .int (ii x10)), (2, .int (ii x9)), (0, .ref (B + u0))]) dX12_count_84 hl (k := 2) rfl (by decide) (fun _ => rfl) hf (fun x10 rx10 hf ls hl => ?_)
        refine lv_goto (tgt := 61) cx.1 cx.2.1 dX12_count_87 (by decide) ?_
        exact ih x9 x10 h _ _ ls rx9 rx10 hp (lv_sub hl [2, 1, 0] rfl) hf
      refine z_if_le cx rx8 (tgt := 81) dX12_count_74 (by decide) hf (fun _ hf => ?_) (fun _ hf => ?_)
      · refine z_iconst cx dX12_count_77 ?_
        refine lv_goto (tgt := 82) cx.1 cx.2.1 dX12_count_78 (by decide) ?_
        exact hj82 v3 1 v2 h _ _ ls rv3 (by decide) rv2 hp (lv_sub hl [0, 2] rfl) hf
      · refine z_iconst cx dX12_count_81 ?_
        exact hj82 v3 0 v2 h _ _ ls rv3 (by decide) rv2 hp (lv_sub hl [0, 2] rfl) hf
    · exact hk90 v2 h _ _ ls rv2 hp (lv_sub hl [1] rfl) hf
def LX12_count_94 (F : Nat) (u0 : Nat) (k122 : Int → HF → RO) : Nat → Int → Int → HF → RO
  | 0, _, _, _ => none
  | n + 1, v2, v3, h =>
    if v3 < 4 then (
      zrd h (u0 + 24) v3 fun x12 =>
      zjn (fun (x114_3 : Int) (y114_0 : Int) (y114_1 : Int) (h : HF) => (
        zlet (wr (y114_1 + y114_0)) fun x13 =>
        zlet (wr (x114_3 + 1)) fun x14 =>
        LX12_count_94 F u0 k122 n x13 x14 h
      )) fun j114 =>
      if 0 < x12 then (
        j114 v3 1 v2 h
      ) else (
        j114 v3 0 v2 h
      )
    ) else (
      k122 v2 h
    )
set_option maxHeartbeats 4000000 in
set_option maxRecDepth 100000 in
theorem wX12_count_94 {p : Program} {l : Launch} {e : Env} {s : State} {m : MethodId} {args : Array Value} {below : List Frame} {meth : Method} {c : Code} {Q : State → Prop} {g : zG} {B : Nat} {o : Int × HF} (F : Nat) (cx : Cx p s m args meth c cX12_count 4 RX12 (some .int) g B) (u0 : Nat) (ru0 : kt u0 = 15) (k122 : Int → HF → RO) (hk122 : ∀ (x2 : Int) (h : HF) (H : Heap) (locs : List Loc) (ls : Array Slot), rng x2 → Hp g B s h H locs → lv_has ls 4 [(2, .int (ii x2))] → k122 x2 h = some o → W p l e (rmn 0) s m args below meth c H locs 0 0 Q (F0 m 122 ls [])) : ∀ (n : Nat) (v2 : Int) (v3 : Int) (h : HF) (H : Heap) (locs : List Loc) (ls : Array Slot), rng v2 → rng v3 → Hp g B s h H locs → lv_has ls 4 [(0, .ref (B + u0)), (2, .int (ii v2)), (3, .int (ii v3))] → LX12_count_94 F u0 k122 n v2 v3 h = some o → W p l e (rmn 0) s m args below meth c H locs 0 0 Q (F0 m 94 ls []) := by
  intro n
  induction n with
  | zero =>
    intro v2 v3 h H locs ls rv2 rv3 hp hl hf
    cases hf
  | succ n ih =>
    intro v2 v3 h H locs ls rv2 rv3 hp hl hf
    rw [LX12_count_94] at hf
    refine lv_iload_n cx.1 cx.2.1 dX12_count_94 rfl (lv_at hl 2 rfl) ?_
    refine z_iconst cx dX12_count_95 ?_
    refine z_icmp_ge cx rv3 (by decide) (tgt := 122) dX12_count_96 (by decide) hf (fun _ hf => ?_) (fun _ hf => ?_)
    · refine lv_iload_n cx.1 cx.2.1 dX12_count_99 rfl (lv_at hl 1 rfl) ?_
      refine lv_aload_n cx.1 cx.2.1 dX12_count_100 rfl (lv_at hl 0 rfl) ?_
      refine z_gets cx hp (T := TX12) 12 30 (u0 + 24) rfl zin_12 (by decide) (by decide) ru0 rfl fl_X12_79 dX12_count_101 ?_
      refine lv_iload_n cx.1 cx.2.1 dX12_count_104 rfl (lv_at hl 2 rfl) ?_
      refine z_iald cx hp (zs_12_30 u0 (kt_lt ru0 (by decide)) ru0) rv3 dX12_count_105 hf (fun x12 rx12 hf => ?_)
      refine z_jn hf (fun j => ∀ (x114_3 : Int) (y114_0 : Int) (y114_1 : Int) (h : HF) (H : Heap) (locs : List Loc) (ls : Array Slot), rng x114_3 → rng y114_0 → rng y114_1 → Hp g B s h H locs → lv_has ls 4 [(0, .ref (B + u0)), (3, .int (ii x114_3))] → j x114_3 y114_0 y114_1 h = some o → W p l e (rmn 0) s m args below meth c H locs 0 0 Q (F0 m 114 ls [.int (ii y114_0), .int (ii y114_1)])) ?_ (fun j114 hj114 hf => ?_)
      · intro x114_3 y114_0 y114_1 h H locs ls rx114_3 ry114_0 ry114_1 hp hl hf
        refine z_iadd cx dX12_count_114 ?_
        refine z_let (rng_wr _) hf (fun x13 rx13 hf => ?_)
        refine lv_istore_n (lv' := [(2, .int (ii x13)), (0, .ref (B + u0)), (3, .int (ii x114_3))]) cx.1 cx.2.1 dX12_count_115 rfl hl (by decide) rfl (fun ls hl => ?_)
        refine z_iinc cx (fun x14 => [(3, .int (ii x14)), (2, .int (ii x13)), (0, .ref (B + u0))]) dX12_count_116 hl (k := 2) rfl (by decide) (fun _ => rfl) hf (fun x14 rx14 hf ls hl => ?_)
        refine lv_goto (tgt := 94) cx.1 cx.2.1 dX12_count_119 (by decide) ?_
        exact ih x13 x14 h _ _ ls rx13 rx14 hp (lv_sub hl [2, 1, 0] rfl) hf
      refine z_if_le cx rx12 (tgt := 113) dX12_count_106 (by decide) hf (fun _ hf => ?_) (fun _ hf => ?_)
      · refine z_iconst cx dX12_count_109 ?_
        refine lv_goto (tgt := 114) cx.1 cx.2.1 dX12_count_110 (by decide) ?_
        exact hj114 v3 1 v2 h _ _ ls rv3 (by decide) rv2 hp (lv_sub hl [0, 2] rfl) hf
      · refine z_iconst cx dX12_count_113 ?_
        exact hj114 v3 0 v2 h _ _ ls rv3 (by decide) rv2 hp (lv_sub hl [0, 2] rfl) hf
    · exact hk122 v2 h _ _ ls rv2 hp (lv_sub hl [1] rfl) hf
def fX12_count (F : Nat) (a0 : Nat) (a1 : Int) (h : HF) : RO :=
  zpf h a0 0 0 fun h =>
  if a1 = 0 then (
    zgf h a0 2 fun x2 =>
    some (x2, h)
  ) else (
  if a1 = 1 then (
    zgf h a0 4 fun x4 =>
    some (x4, h)
  ) else (
  if a1 = 2 then (
    zgf h a0 16 fun x6 =>
    some (x6, h)
  ) else (
  if a1 = 3 then (
    zjn (fun (x90_2 : Int) (h : HF) => (
      some (x90_2, h)
    )) fun j90 =>
    LX12_count_61 F a0 j90 F 0 0 h
  ) else (
  if a1 = 4 then (
    zjn (fun (x122_2 : Int) (h : HF) => (
      some (x122_2, h)
    )) fun j122 =>
    LX12_count_94 F a0 j122 F 0 0 h
  ) else (
    some ((-3), h)
  )
  )
  )
  )
  )
set_option maxHeartbeats 4000000 in
set_option maxRecDepth 100000 in
theorem mX12_count (F : Nat) (l : Launch) (g : zG) (B : Nat) (h : HF) (a0 : Nat) (a1 : Int) (ra0 : kt a0 = 15) (ra1 : rng a1) : CTi l g B yX12_count cX12_count 4 (some .int) 0 [.ref (B + a0), .int (ii a1)] h (fX12_count F a0 a1 h) := by
  refine z_enterI (by decide) rfl (Nat.le_of_ble_eq_true rfl) ?_
  intro p e s m args below meth c ls o Q cx hp hl hf hQ
  have hl : lv_has ls 4 [(0, .ref (B + a0)), (1, .int (ii a1))] := hl
  unfold fX12_count at hf
  refine lv_aload_n cx.1 cx.2.1 dX12_count_0 rfl (lv_at hl 0 rfl) ?_
  refine z_iconst cx dX12_count_1 ?_
  refine z_puti cx hp (T := TX12) tyX12 tyX12_ok nmX12 12 0 (by decide) rfl zin_12 (by decide) (by decide) ra0 rfl rfl rfl fl_X12_115 dX12_count_2 hf (fun h H locs hp hf => ?_)
  refine z_iconst cx dX12_count_5 ?_
  refine lv_istore_n (lv' := [(2, .int (ii 0)), (0, .ref (B + a0)), (1, .int (ii a1))]) cx.1 cx.2.1 dX12_count_6 rfl hl (by decide) rfl (fun ls hl => ?_)
  refine lv_iload_n cx.1 cx.2.1 dX12_count_7 rfl (lv_at hl 2 rfl) ?_
  refine ite_inv hf (fun c1 hf => ?_) (fun c1 hf => ?_)
  · refine lv_tableIn (off := 36) (tgt := 44) cx.1 cx.2.1 dX12_count_8 (by rw [c1]; decide) (by rw [c1]; decide) (by rw [c1]; rfl) (by decide) ?_
    refine lv_aload_n cx.1 cx.2.1 dX12_count_44 rfl (lv_at hl 1 rfl) ?_
    refine z_geti cx hp (T := TX12) 12 2 rfl zin_12 (by decide) (by decide) ra0 rfl fl_X12_119 dX12_count_45 hf (fun x2 rx2 hf => ?_)
    rw [hQ]; exact z_iret cx hp rx2 dX12_count_48 hf
  · refine ite_inv hf (fun c3 hf => ?_) (fun c3 hf => ?_)
    · refine lv_tableIn (off := 41) (tgt := 49) cx.1 cx.2.1 dX12_count_8 (by rw [c3]; decide) (by rw [c3]; decide) (by rw [c3]; rfl) (by decide) ?_
      refine lv_aload_n cx.1 cx.2.1 dX12_count_49 rfl (lv_at hl 1 rfl) ?_
      refine z_geti cx hp (T := TX12) 12 4 rfl zin_12 (by decide) (by decide) ra0 rfl fl_X12_126 dX12_count_50 hf (fun x4 rx4 hf => ?_)
      rw [hQ]; exact z_iret cx hp rx4 dX12_count_53 hf
    · refine ite_inv hf (fun c5 hf => ?_) (fun c5 hf => ?_)
      · refine lv_tableIn (off := 46) (tgt := 54) cx.1 cx.2.1 dX12_count_8 (by rw [c5]; decide) (by rw [c5]; decide) (by rw [c5]; rfl) (by decide) ?_
        refine lv_aload_n cx.1 cx.2.1 dX12_count_54 rfl (lv_at hl 1 rfl) ?_
        refine z_geti cx hp (T := TX12) 12 16 rfl zin_12 (by decide) (by decide) ra0 rfl fl_X12_143 dX12_count_55 hf (fun x6 rx6 hf => ?_)
        rw [hQ]; exact z_iret cx hp rx6 dX12_count_58 hf
      · refine ite_inv hf (fun c7 hf => ?_) (fun c7 hf => ?_)
        · refine lv_tableIn (off := 51) (tgt := 59) cx.1 cx.2.1 dX12_count_8 (by rw [c7]; decide) (by rw [c7]; decide) (by rw [c7]; rfl) (by decide) ?_
          refine z_iconst cx dX12_count_59 ?_
          refine lv_istore_n (lv' := [(3, .int (ii 0)), (2, .int (ii 0)), (0, .ref (B + a0)), (1, .int (ii a1))]) cx.1 cx.2.1 dX12_count_60 rfl hl (by decide) rfl (fun ls hl => ?_)
          refine z_jn hf (fun j => ∀ (x90_2 : Int) (h : HF) (H : Heap) (locs : List Loc) (ls : Array Slot), rng x90_2 → Hp g B s h H locs → lv_has ls 4 [(2, .int (ii x90_2))] → j x90_2 h = some o → W p l e (rmn 0) s m args below meth c H locs 0 0 Q (F0 m 90 ls [])) ?_ (fun j90 hj90 hf => ?_)
          · intro x90_2 h H locs ls rx90_2 hp hl hf
            refine lv_iload_n cx.1 cx.2.1 dX12_count_90 rfl (lv_at hl 0 rfl) ?_
            rw [hQ]; exact z_iret cx hp rx90_2 dX12_count_91 hf
          exact wX12_count_61 F cx a0 ra0 j90 hj90 F 0 0 h _ _ ls (by decide) (by decide) hp (lv_sub hl [2, 1, 0] rfl) hf
        · refine ite_inv hf (fun c11 hf => ?_) (fun c11 hf => ?_)
          · refine lv_tableIn (off := 84) (tgt := 92) cx.1 cx.2.1 dX12_count_8 (by rw [c11]; decide) (by rw [c11]; decide) (by rw [c11]; rfl) (by decide) ?_
            refine z_iconst cx dX12_count_92 ?_
            refine lv_istore_n (lv' := [(3, .int (ii 0)), (2, .int (ii 0)), (0, .ref (B + a0)), (1, .int (ii a1))]) cx.1 cx.2.1 dX12_count_93 rfl hl (by decide) rfl (fun ls hl => ?_)
            refine z_jn hf (fun j => ∀ (x122_2 : Int) (h : HF) (H : Heap) (locs : List Loc) (ls : Array Slot), rng x122_2 → Hp g B s h H locs → lv_has ls 4 [(2, .int (ii x122_2))] → j x122_2 h = some o → W p l e (rmn 0) s m args below meth c H locs 0 0 Q (F0 m 122 ls [])) ?_ (fun j122 hj122 hf => ?_)
            · intro x122_2 h H locs ls rx122_2 hp hl hf
              refine lv_iload_n cx.1 cx.2.1 dX12_count_122 rfl (lv_at hl 0 rfl) ?_
              rw [hQ]; exact z_iret cx hp rx122_2 dX12_count_123 hf
            exact wX12_count_94 F cx a0 ra0 j122 hj122 F 0 0 h _ _ ls (by decide) (by decide) hp (lv_sub hl [2, 1, 0] rfl) hf
          · refine lv_tableOut (tgt := 124) cx.1 cx.2.1 dX12_count_8 (by rw [ii_ti ra1]; omega) (by decide) ?_
            refine z_bipush cx (by decide) dX12_count_124 ?_
            rw [hQ]; exact z_iret cx hp (by decide) dX12_count_126 hf
theorem dJ6_bitCount_0f7a4_0 : decode cJ6_bitCount_0f7a4 0 = .ok (.iload_n 0, 1) := by decide +kernel
theorem dJ6_bitCount_0f7a4_1 : decode cJ6_bitCount_0f7a4 1 = .ok (.iload_n 0, 1) := by decide +kernel
theorem dJ6_bitCount_0f7a4_2 : decode cJ6_bitCount_0f7a4 2 = .ok (.iconst 1, 1) := by decide +kernel
theorem dJ6_bitCount_0f7a4_3 : decode cJ6_bitCount_0f7a4 3 = .ok (.iushr, 1) := by decide +kernel
theorem dJ6_bitCount_0f7a4_4 : decode cJ6_bitCount_0f7a4 4 = .ok (.ldc_w 265, 3) := by decide +kernel
theorem dJ6_bitCount_0f7a4_7 : decode cJ6_bitCount_0f7a4 7 = .ok (.iand, 1) := by decide +kernel
theorem dJ6_bitCount_0f7a4_8 : decode cJ6_bitCount_0f7a4 8 = .ok (.isub, 1) := by decide +kernel
theorem dJ6_bitCount_0f7a4_9 : decode cJ6_bitCount_0f7a4 9 = .ok (.istore_n 0, 1) := by decide +kernel
theorem dJ6_bitCount_0f7a4_10 : decode cJ6_bitCount_0f7a4 10 = .ok (.iload_n 0, 1) := by decide +kernel
theorem dJ6_bitCount_0f7a4_11 : decode cJ6_bitCount_0f7a4 11 = .ok (.ldc_w 266, 3) := by decide +kernel
theorem dJ6_bitCount_0f7a4_14 : decode cJ6_bitCount_0f7a4 14 = .ok (.iand, 1) := by decide +kernel
theorem dJ6_bitCount_0f7a4_15 : decode cJ6_bitCount_0f7a4 15 = .ok (.iload_n 0, 1) := by decide +kernel
theorem dJ6_bitCount_0f7a4_16 : decode cJ6_bitCount_0f7a4 16 = .ok (.iconst 2, 1) := by decide +kernel
theorem dJ6_bitCount_0f7a4_17 : decode cJ6_bitCount_0f7a4 17 = .ok (.iushr, 1) := by decide +kernel
theorem dJ6_bitCount_0f7a4_18 : decode cJ6_bitCount_0f7a4 18 = .ok (.ldc_w 266, 3) := by decide +kernel
theorem dJ6_bitCount_0f7a4_21 : decode cJ6_bitCount_0f7a4 21 = .ok (.iand, 1) := by decide +kernel
theorem dJ6_bitCount_0f7a4_22 : decode cJ6_bitCount_0f7a4 22 = .ok (.iadd, 1) := by decide +kernel
theorem dJ6_bitCount_0f7a4_23 : decode cJ6_bitCount_0f7a4 23 = .ok (.istore_n 0, 1) := by decide +kernel
theorem dJ6_bitCount_0f7a4_24 : decode cJ6_bitCount_0f7a4 24 = .ok (.iload_n 0, 1) := by decide +kernel
theorem dJ6_bitCount_0f7a4_25 : decode cJ6_bitCount_0f7a4 25 = .ok (.iload_n 0, 1) := by decide +kernel
theorem dJ6_bitCount_0f7a4_26 : decode cJ6_bitCount_0f7a4 26 = .ok (.iconst 4, 1) := by decide +kernel
theorem dJ6_bitCount_0f7a4_27 : decode cJ6_bitCount_0f7a4 27 = .ok (.iushr, 1) := by decide +kernel
theorem dJ6_bitCount_0f7a4_28 : decode cJ6_bitCount_0f7a4 28 = .ok (.iadd, 1) := by decide +kernel
theorem dJ6_bitCount_0f7a4_29 : decode cJ6_bitCount_0f7a4 29 = .ok (.ldc_w 267, 3) := by decide +kernel
theorem dJ6_bitCount_0f7a4_32 : decode cJ6_bitCount_0f7a4 32 = .ok (.iand, 1) := by decide +kernel
theorem dJ6_bitCount_0f7a4_33 : decode cJ6_bitCount_0f7a4 33 = .ok (.istore_n 0, 1) := by decide +kernel
theorem dJ6_bitCount_0f7a4_34 : decode cJ6_bitCount_0f7a4 34 = .ok (.iload_n 0, 1) := by decide +kernel
theorem dJ6_bitCount_0f7a4_35 : decode cJ6_bitCount_0f7a4 35 = .ok (.iload_n 0, 1) := by decide +kernel
theorem dJ6_bitCount_0f7a4_36 : decode cJ6_bitCount_0f7a4 36 = .ok (.bipush 8, 2) := by decide +kernel
theorem dJ6_bitCount_0f7a4_38 : decode cJ6_bitCount_0f7a4 38 = .ok (.iushr, 1) := by decide +kernel
theorem dJ6_bitCount_0f7a4_39 : decode cJ6_bitCount_0f7a4 39 = .ok (.iadd, 1) := by decide +kernel
theorem dJ6_bitCount_0f7a4_40 : decode cJ6_bitCount_0f7a4 40 = .ok (.istore_n 0, 1) := by decide +kernel
theorem dJ6_bitCount_0f7a4_41 : decode cJ6_bitCount_0f7a4 41 = .ok (.iload_n 0, 1) := by decide +kernel
theorem dJ6_bitCount_0f7a4_42 : decode cJ6_bitCount_0f7a4 42 = .ok (.iload_n 0, 1) := by decide +kernel
theorem dJ6_bitCount_0f7a4_43 : decode cJ6_bitCount_0f7a4 43 = .ok (.bipush 16, 2) := by decide +kernel
theorem dJ6_bitCount_0f7a4_45 : decode cJ6_bitCount_0f7a4 45 = .ok (.iushr, 1) := by decide +kernel
theorem dJ6_bitCount_0f7a4_46 : decode cJ6_bitCount_0f7a4 46 = .ok (.iadd, 1) := by decide +kernel
theorem dJ6_bitCount_0f7a4_47 : decode cJ6_bitCount_0f7a4 47 = .ok (.istore_n 0, 1) := by decide +kernel
theorem dJ6_bitCount_0f7a4_48 : decode cJ6_bitCount_0f7a4 48 = .ok (.iload_n 0, 1) := by decide +kernel
theorem dJ6_bitCount_0f7a4_49 : decode cJ6_bitCount_0f7a4 49 = .ok (.bipush 63, 2) := by decide +kernel
theorem dJ6_bitCount_0f7a4_51 : decode cJ6_bitCount_0f7a4 51 = .ok (.iand, 1) := by decide +kernel
theorem dJ6_bitCount_0f7a4_52 : decode cJ6_bitCount_0f7a4 52 = .ok (.ireturn, 1) := by decide +kernel
def fJ6_bitCount_0f7a4 (F : Nat) (a0 : Int) (h : HF) : RO :=
  zlet (wr (a0 - (wand (wushr a0 1) 1431655765))) fun x1 =>
  zlet (wr ((wand x1 858993459) + (wand (wushr x1 2) 858993459))) fun x2 =>
  zlet (wand (wr (x2 + (wushr x2 4))) 252645135) fun x3 =>
  zlet (wr (x3 + (wushr x3 8))) fun x4 =>
  zlet (wr (x4 + (wushr x4 16))) fun x5 =>
  some (wand x5 63, h)
set_option maxHeartbeats 4000000 in
set_option maxRecDepth 100000 in
theorem mJ6_bitCount_0f7a4 (F : Nat) (l : Launch) (g : zG) (B : Nat) (h : HF) (a0 : Int) (ra0 : rng a0) : CTi l g B yJ6_bitCount_0f7a4 cJ6_bitCount_0f7a4 1 (some .int) 0 [.int (ii a0)] h (fJ6_bitCount_0f7a4 F a0 h) := by
  refine z_enterI (by decide) rfl (Nat.le_of_ble_eq_true rfl) ?_
  intro p e s m args below meth c ls o Q cx hp hl hf hQ
  have hl : lv_has ls 1 [(0, .int (ii a0))] := hl
  unfold fJ6_bitCount_0f7a4 at hf
  refine lv_iload_n cx.1 cx.2.1 dJ6_bitCount_0f7a4_0 rfl (lv_at hl 0 rfl) ?_
  refine lv_iload_n cx.1 cx.2.1 dJ6_bitCount_0f7a4_1 rfl (lv_at hl 0 rfl) ?_
  refine z_iconst cx dJ6_bitCount_0f7a4_2 ?_
  refine z_iushr cx dJ6_bitCount_0f7a4_3 ?_
  refine lv_ldcw (v := ii 1431655765) cx.1 cx.2.1 cx.2.2.2.1 (cx.2.2.2.2.1 _ (aw_m5 20 (by decide +kernel) rfl)) dJ6_bitCount_0f7a4_4 ?_
  refine z_iand cx dJ6_bitCount_0f7a4_7 ?_
  refine z_isub cx dJ6_bitCount_0f7a4_8 ?_
  refine z_let (rng_wr _) hf (fun x1 rx1 hf => ?_)
  refine lv_istore_n (lv' := [(0, .int (ii x1))]) cx.1 cx.2.1 dJ6_bitCount_0f7a4_9 rfl hl (by decide) rfl (fun ls hl => ?_)
  refine lv_iload_n cx.1 cx.2.1 dJ6_bitCount_0f7a4_10 rfl (lv_at hl 0 rfl) ?_
  refine lv_ldcw (v := ii 858993459) cx.1 cx.2.1 cx.2.2.2.1 (cx.2.2.2.2.1 _ (aw_m5 21 (by decide +kernel) rfl)) dJ6_bitCount_0f7a4_11 ?_
  refine z_iand cx dJ6_bitCount_0f7a4_14 ?_
  refine lv_iload_n cx.1 cx.2.1 dJ6_bitCount_0f7a4_15 rfl (lv_at hl 0 rfl) ?_
  refine z_iconst cx dJ6_bitCount_0f7a4_16 ?_
  refine z_iushr cx dJ6_bitCount_0f7a4_17 ?_
  refine lv_ldcw (v := ii 858993459) cx.1 cx.2.1 cx.2.2.2.1 (cx.2.2.2.2.1 _ (aw_m5 21 (by decide +kernel) rfl)) dJ6_bitCount_0f7a4_18 ?_
  refine z_iand cx dJ6_bitCount_0f7a4_21 ?_
  refine z_iadd cx dJ6_bitCount_0f7a4_22 ?_
  refine z_let (rng_wr _) hf (fun x2 rx2 hf => ?_)
  refine lv_istore_n (lv' := [(0, .int (ii x2))]) cx.1 cx.2.1 dJ6_bitCount_0f7a4_23 rfl hl (by decide) rfl (fun ls hl => ?_)
  refine lv_iload_n cx.1 cx.2.1 dJ6_bitCount_0f7a4_24 rfl (lv_at hl 0 rfl) ?_
  refine lv_iload_n cx.1 cx.2.1 dJ6_bitCount_0f7a4_25 rfl (lv_at hl 0 rfl) ?_
  refine z_iconst cx dJ6_bitCount_0f7a4_26 ?_
  refine z_iushr cx dJ6_bitCount_0f7a4_27 ?_
  refine z_iadd cx dJ6_bitCount_0f7a4_28 ?_
  refine lv_ldcw (v := ii 252645135) cx.1 cx.2.1 cx.2.2.2.1 (cx.2.2.2.2.1 _ (aw_m5 22 (by decide +kernel) rfl)) dJ6_bitCount_0f7a4_29 ?_
  refine z_iand cx dJ6_bitCount_0f7a4_32 ?_
  refine z_let (rng_and _ _) hf (fun x3 rx3 hf => ?_)
  refine lv_istore_n (lv' := [(0, .int (ii x3))]) cx.1 cx.2.1 dJ6_bitCount_0f7a4_33 rfl hl (by decide) rfl (fun ls hl => ?_)
  refine lv_iload_n cx.1 cx.2.1 dJ6_bitCount_0f7a4_34 rfl (lv_at hl 0 rfl) ?_
  refine lv_iload_n cx.1 cx.2.1 dJ6_bitCount_0f7a4_35 rfl (lv_at hl 0 rfl) ?_
  refine z_bipush cx (by decide) dJ6_bitCount_0f7a4_36 ?_
  refine z_iushr cx dJ6_bitCount_0f7a4_38 ?_
  refine z_iadd cx dJ6_bitCount_0f7a4_39 ?_
  refine z_let (rng_wr _) hf (fun x4 rx4 hf => ?_)
  refine lv_istore_n (lv' := [(0, .int (ii x4))]) cx.1 cx.2.1 dJ6_bitCount_0f7a4_40 rfl hl (by decide) rfl (fun ls hl => ?_)
  refine lv_iload_n cx.1 cx.2.1 dJ6_bitCount_0f7a4_41 rfl (lv_at hl 0 rfl) ?_
  refine lv_iload_n cx.1 cx.2.1 dJ6_bitCount_0f7a4_42 rfl (lv_at hl 0 rfl) ?_
  refine z_bipush cx (by decide) dJ6_bitCount_0f7a4_43 ?_
  refine z_iushr cx dJ6_bitCount_0f7a4_45 ?_
  refine z_iadd cx dJ6_bitCount_0f7a4_46 ?_
  refine z_let (rng_wr _) hf (fun x5 rx5 hf => ?_)
  refine lv_istore_n (lv' := [(0, .int (ii x5))]) cx.1 cx.2.1 dJ6_bitCount_0f7a4_47 rfl hl (by decide) rfl (fun ls hl => ?_)
  refine lv_iload_n cx.1 cx.2.1 dJ6_bitCount_0f7a4_48 rfl (lv_at hl 0 rfl) ?_
  refine z_bipush cx (by decide) dJ6_bitCount_0f7a4_49 ?_
  refine z_iand cx dJ6_bitCount_0f7a4_51 ?_
  rw [hQ]; exact z_iret cx hp (rng_and _ _) dJ6_bitCount_0f7a4_52 hf
theorem dJ7_rangeCheck_23922_0 : decode cJ7_rangeCheck_23922 0 = .ok (.iload_n 1, 1) := by decide +kernel
theorem dJ7_rangeCheck_23922_1 : decode cJ7_rangeCheck_23922 1 = .ok (.iload_n 2, 1) := by decide +kernel
theorem dJ7_rangeCheck_23922_2 : decode cJ7_rangeCheck_23922 2 = .ok (.if_icmp .le 44, 3) := by decide +kernel
theorem dJ7_rangeCheck_23922_5 : decode cJ7_rangeCheck_23922 5 = .ok (.new 43, 3) := by decide +kernel
theorem dJ7_rangeCheck_23922_8 : decode cJ7_rangeCheck_23922 8 = .ok (.dup, 1) := by decide +kernel
theorem dJ7_rangeCheck_23922_9 : decode cJ7_rangeCheck_23922 9 = .ok (.new 45, 3) := by decide +kernel
theorem dJ7_rangeCheck_23922_12 : decode cJ7_rangeCheck_23922 12 = .ok (.dup, 1) := by decide +kernel
theorem dJ7_rangeCheck_23922_13 : decode cJ7_rangeCheck_23922 13 = .ok (.invokespecial 47, 3) := by decide +kernel
theorem dJ7_rangeCheck_23922_16 : decode cJ7_rangeCheck_23922 16 = .ok (.ldc 48, 2) := by decide +kernel
theorem dJ7_rangeCheck_23922_18 : decode cJ7_rangeCheck_23922 18 = .ok (.invokevirtual 50, 3) := by decide +kernel
theorem dJ7_rangeCheck_23922_21 : decode cJ7_rangeCheck_23922 21 = .ok (.iload_n 1, 1) := by decide +kernel
theorem dJ7_rangeCheck_23922_22 : decode cJ7_rangeCheck_23922 22 = .ok (.invokevirtual 54, 3) := by decide +kernel
theorem dJ7_rangeCheck_23922_25 : decode cJ7_rangeCheck_23922 25 = .ok (.ldc 57, 2) := by decide +kernel
theorem dJ7_rangeCheck_23922_27 : decode cJ7_rangeCheck_23922 27 = .ok (.invokevirtual 50, 3) := by decide +kernel
theorem dJ7_rangeCheck_23922_30 : decode cJ7_rangeCheck_23922 30 = .ok (.iload_n 2, 1) := by decide +kernel
theorem dJ7_rangeCheck_23922_31 : decode cJ7_rangeCheck_23922 31 = .ok (.invokevirtual 54, 3) := by decide +kernel
theorem dJ7_rangeCheck_23922_34 : decode cJ7_rangeCheck_23922 34 = .ok (.ldc 59, 2) := by decide +kernel
theorem dJ7_rangeCheck_23922_36 : decode cJ7_rangeCheck_23922 36 = .ok (.invokevirtual 50, 3) := by decide +kernel
theorem dJ7_rangeCheck_23922_39 : decode cJ7_rangeCheck_23922 39 = .ok (.invokevirtual 61, 3) := by decide +kernel
theorem dJ7_rangeCheck_23922_42 : decode cJ7_rangeCheck_23922 42 = .ok (.invokespecial 65, 3) := by decide +kernel
theorem dJ7_rangeCheck_23922_45 : decode cJ7_rangeCheck_23922 45 = .ok (.athrow, 1) := by decide +kernel
theorem dJ7_rangeCheck_23922_46 : decode cJ7_rangeCheck_23922 46 = .ok (.iload_n 1, 1) := by decide +kernel
theorem dJ7_rangeCheck_23922_47 : decode cJ7_rangeCheck_23922 47 = .ok (.ifCond .ge 12, 3) := by decide +kernel
theorem dJ7_rangeCheck_23922_50 : decode cJ7_rangeCheck_23922 50 = .ok (.new 68, 3) := by decide +kernel
theorem dJ7_rangeCheck_23922_53 : decode cJ7_rangeCheck_23922 53 = .ok (.dup, 1) := by decide +kernel
theorem dJ7_rangeCheck_23922_54 : decode cJ7_rangeCheck_23922 54 = .ok (.iload_n 1, 1) := by decide +kernel
theorem dJ7_rangeCheck_23922_55 : decode cJ7_rangeCheck_23922 55 = .ok (.invokespecial 70, 3) := by decide +kernel
theorem dJ7_rangeCheck_23922_58 : decode cJ7_rangeCheck_23922 58 = .ok (.athrow, 1) := by decide +kernel
theorem dJ7_rangeCheck_23922_59 : decode cJ7_rangeCheck_23922 59 = .ok (.iload_n 2, 1) := by decide +kernel
theorem dJ7_rangeCheck_23922_60 : decode cJ7_rangeCheck_23922 60 = .ok (.iload_n 0, 1) := by decide +kernel
theorem dJ7_rangeCheck_23922_61 : decode cJ7_rangeCheck_23922 61 = .ok (.if_icmp .le 12, 3) := by decide +kernel
theorem dJ7_rangeCheck_23922_64 : decode cJ7_rangeCheck_23922 64 = .ok (.new 68, 3) := by decide +kernel
theorem dJ7_rangeCheck_23922_67 : decode cJ7_rangeCheck_23922 67 = .ok (.dup, 1) := by decide +kernel
theorem dJ7_rangeCheck_23922_68 : decode cJ7_rangeCheck_23922 68 = .ok (.iload_n 2, 1) := by decide +kernel
theorem dJ7_rangeCheck_23922_69 : decode cJ7_rangeCheck_23922 69 = .ok (.invokespecial 70, 3) := by decide +kernel
theorem dJ7_rangeCheck_23922_72 : decode cJ7_rangeCheck_23922 72 = .ok (.athrow, 1) := by decide +kernel
theorem dJ7_rangeCheck_23922_73 : decode cJ7_rangeCheck_23922 73 = .ok (.return_, 1) := by decide +kernel
def fJ7_rangeCheck_23922 (F : Nat) (a0 : Int) (a1 : Int) (a2 : Int) (h : HF) : RO :=
  if a2 < a1 then (
    none
  ) else (
    if a1 < 0 then (
      none
    ) else (
      if a0 < a2 then (
        none
      ) else (
        some (0, h)
      )
    )
  )
set_option maxHeartbeats 4000000 in
set_option maxRecDepth 100000 in
theorem mJ7_rangeCheck_23922 (F : Nat) (l : Launch) (g : zG) (B : Nat) (h : HF) (a0 : Int) (a1 : Int) (a2 : Int) (ra0 : rng a0) (ra1 : rng a1) (ra2 : rng a2) : CTv l g B yJ7_rangeCheck_23922 cJ7_rangeCheck_23922 3 0 [.int (ii a0), .int (ii a1), .int (ii a2)] h (fJ7_rangeCheck_23922 F a0 a1 a2 h) := by
  refine z_enterV (by decide) rfl (Nat.le_of_ble_eq_true rfl) ?_
  intro p e s m args below meth c ls o Q cx hp hl hf hQ
  have hl : lv_has ls 3 [(0, .int (ii a0)), (1, .int (ii a1)), (2, .int (ii a2))] := hl
  unfold fJ7_rangeCheck_23922 at hf
  refine lv_iload_n cx.1 cx.2.1 dJ7_rangeCheck_23922_0 rfl (lv_at hl 1 rfl) ?_
  refine lv_iload_n cx.1 cx.2.1 dJ7_rangeCheck_23922_1 rfl (lv_at hl 2 rfl) ?_
  refine z_icmp_le cx ra1 ra2 (tgt := 46) dJ7_rangeCheck_23922_2 (by decide) hf (fun _ hf => ?_) (fun _ hf => ?_)
  · cases hf
  · refine lv_iload_n cx.1 cx.2.1 dJ7_rangeCheck_23922_46 rfl (lv_at hl 1 rfl) ?_
    refine z_if_ge cx ra1 (tgt := 59) dJ7_rangeCheck_23922_47 (by decide) hf (fun _ hf => ?_) (fun _ hf => ?_)
    · cases hf
    · refine lv_iload_n cx.1 cx.2.1 dJ7_rangeCheck_23922_59 rfl (lv_at hl 2 rfl) ?_
      refine lv_iload_n cx.1 cx.2.1 dJ7_rangeCheck_23922_60 rfl (lv_at hl 0 rfl) ?_
      refine z_icmp_le cx ra2 ra0 (tgt := 73) dJ7_rangeCheck_23922_61 (by decide) hf (fun _ hf => ?_) (fun _ hf => ?_)
      · cases hf
      · rw [hQ]; exact z_vret cx hp dJ7_rangeCheck_23922_73 hf
theorem dJ7_fill_53178_0 : decode cJ7_fill_53178 0 = .ok (.iconst 0, 1) := by decide +kernel
theorem dJ7_fill_53178_1 : decode cJ7_fill_53178 1 = .ok (.istore_n 2, 1) := by decide +kernel
theorem dJ7_fill_53178_2 : decode cJ7_fill_53178 2 = .ok (.aload_n 0, 1) := by decide +kernel
theorem dJ7_fill_53178_3 : decode cJ7_fill_53178 3 = .ok (.arraylength, 1) := by decide +kernel
theorem dJ7_fill_53178_4 : decode cJ7_fill_53178 4 = .ok (.istore_n 3, 1) := by decide +kernel
theorem dJ7_fill_53178_5 : decode cJ7_fill_53178 5 = .ok (.iload_n 2, 1) := by decide +kernel
theorem dJ7_fill_53178_6 : decode cJ7_fill_53178 6 = .ok (.iload_n 3, 1) := by decide +kernel
theorem dJ7_fill_53178_7 : decode cJ7_fill_53178 7 = .ok (.if_icmp .ge 13, 3) := by decide +kernel
theorem dJ7_fill_53178_10 : decode cJ7_fill_53178 10 = .ok (.aload_n 0, 1) := by decide +kernel
theorem dJ7_fill_53178_11 : decode cJ7_fill_53178 11 = .ok (.iload_n 2, 1) := by decide +kernel
theorem dJ7_fill_53178_12 : decode cJ7_fill_53178 12 = .ok (.iload_n 1, 1) := by decide +kernel
theorem dJ7_fill_53178_13 : decode cJ7_fill_53178 13 = .ok (.iastore, 1) := by decide +kernel
theorem dJ7_fill_53178_14 : decode cJ7_fill_53178 14 = .ok (.iinc 2 1, 3) := by decide +kernel
theorem dJ7_fill_53178_17 : decode cJ7_fill_53178 17 = .ok (.goto (-12), 3) := by decide +kernel
theorem dJ7_fill_53178_20 : decode cJ7_fill_53178 20 = .ok (.return_, 1) := by decide +kernel
def LJ7_fill_53178_5 (F : Nat) (u0 : Nat) (u1 : Int) (u3 : Int) (k20 : HF → RO) : Nat → Int → HF → RO
  | 0, _, _ => none
  | n + 1, v2, h =>
    if v2 < u3 then (
      zwr h u0 v2 u1 fun h =>
      zlet (wr (v2 + 1)) fun x2 =>
      LJ7_fill_53178_5 F u0 u1 u3 k20 n x2 h
    ) else (
      k20  h
    )
set_option maxHeartbeats 4000000 in
set_option maxRecDepth 100000 in
theorem wJ7_fill_53178_5 {p : Program} {l : Launch} {e : Env} {s : State} {m : MethodId} {args : Array Value} {below : List Frame} {meth : Method} {c : Code} {Q : State → Prop} {g : zG} {B : Nat} {o : Int × HF} (F : Nat) (cx : Cx p s m args meth c cJ7_fill_53178 4 RJ7 none g B) (u0 : Nat) (ru0 : kt u0 = 0) (u1 : Int) (ru1 : rng u1) (u3 : Int) (ru3 : rng u3) (k20 : HF → RO) (hk20 : ∀  (h : HF) (H : Heap) (locs : List Loc) (ls : Array Slot), Hp g B s h H locs → lv_has ls 4 [] → k20  h = some o → W p l e (rmn 0) s m args below meth c H locs 0 0 Q (F0 m 20 ls [])) : ∀ (n : Nat) (v2 : Int) (h : HF) (H : Heap) (locs : List Loc) (ls : Array Slot), rng v2 → Hp g B s h H locs → lv_has ls 4 [(0, .ref (B + u0)), (1, .int (ii u1)), (2, .int (ii v2)), (3, .int (ii u3))] → LJ7_fill_53178_5 F u0 u1 u3 k20 n v2 h = some o → W p l e (rmn 0) s m args below meth c H locs 0 0 Q (F0 m 5 ls []) := by
  intro n
  induction n with
  | zero =>
    intro v2 h H locs ls rv2 hp hl hf
    cases hf
  | succ n ih =>
    intro v2 h H locs ls rv2 hp hl hf
    rw [LJ7_fill_53178_5] at hf
    refine lv_iload_n cx.1 cx.2.1 dJ7_fill_53178_5 rfl (lv_at hl 2 rfl) ?_
    refine lv_iload_n cx.1 cx.2.1 dJ7_fill_53178_6 rfl (lv_at hl 3 rfl) ?_
    refine z_icmp_ge cx rv2 ru3 (tgt := 20) dJ7_fill_53178_7 (by decide) hf (fun _ hf => ?_) (fun _ hf => ?_)
    · refine lv_aload_n cx.1 cx.2.1 dJ7_fill_53178_10 rfl (lv_at hl 0 rfl) ?_
      refine lv_iload_n cx.1 cx.2.1 dJ7_fill_53178_11 rfl (lv_at hl 2 rfl) ?_
      refine lv_iload_n cx.1 cx.2.1 dJ7_fill_53178_12 rfl (lv_at hl 1 rfl) ?_
      refine z_iast cx hp ru0 rv2 ru1 dJ7_fill_53178_13 hf (fun h H locs hp hf => ?_)
      refine z_iinc cx (fun x2 => [(2, .int (ii x2)), (0, .ref (B + u0)), (1, .int (ii u1)), (3, .int (ii u3))]) dJ7_fill_53178_14 hl (k := 2) rfl (by decide) (fun _ => rfl) hf (fun x2 rx2 hf ls hl => ?_)
      refine lv_goto (tgt := 5) cx.1 cx.2.1 dJ7_fill_53178_17 (by decide) ?_
      exact ih x2 h _ _ ls rx2 hp (lv_sub hl [1, 2, 0, 3] rfl) hf
    · exact hk20  h _ _ ls  hp (lv_sub hl [] rfl) hf
def fJ7_fill_53178 (F : Nat) (a0 : Nat) (a1 : Int) (h : HF) : RO :=
  zlet (kl a0 : Int) fun x1 =>
  zjn (fun  (h : HF) => (
    some (0, h)
  )) fun j20 =>
  LJ7_fill_53178_5 F a0 a1 x1 j20 F 0 h
set_option maxHeartbeats 4000000 in
set_option maxRecDepth 100000 in
theorem mJ7_fill_53178 (F : Nat) (l : Launch) (g : zG) (B : Nat) (h : HF) (a0 : Nat) (a1 : Int) (ra0 : kt a0 = 0) (ra1 : rng a1) : CTv l g B yJ7_fill_53178 cJ7_fill_53178 4 0 [.ref (B + a0), .int (ii a1)] h (fJ7_fill_53178 F a0 a1 h) := by
  refine z_enterV (by decide) rfl (Nat.le_of_ble_eq_true rfl) ?_
  intro p e s m args below meth c ls o Q cx hp hl hf hQ
  have hl : lv_has ls 4 [(0, .ref (B + a0)), (1, .int (ii a1))] := hl
  unfold fJ7_fill_53178 at hf
  refine z_iconst cx dJ7_fill_53178_0 ?_
  refine lv_istore_n (lv' := [(2, .int (ii 0)), (0, .ref (B + a0)), (1, .int (ii a1))]) cx.1 cx.2.1 dJ7_fill_53178_1 rfl hl (by decide) rfl (fun ls hl => ?_)
  refine lv_aload_n cx.1 cx.2.1 dJ7_fill_53178_2 rfl (lv_at hl 1 rfl) ?_
  refine z_alen cx hp ra0 dJ7_fill_53178_3 ?_
  refine z_let (rng_kl ra0 (by decide)) hf (fun x1 rx1 hf => ?_)
  refine lv_istore_n (lv' := [(3, .int (ii x1)), (2, .int (ii 0)), (0, .ref (B + a0)), (1, .int (ii a1))]) cx.1 cx.2.1 dJ7_fill_53178_4 rfl hl (by decide) rfl (fun ls hl => ?_)
  refine z_jn hf (fun j => ∀  (h : HF) (H : Heap) (locs : List Loc) (ls : Array Slot), Hp g B s h H locs → lv_has ls 4 [] → j  h = some o → W p l e (rmn 0) s m args below meth c H locs 0 0 Q (F0 m 20 ls [])) ?_ (fun j20 hj20 hf => ?_)
  · intro  h H locs ls  hp hl hf
    rw [hQ]; exact z_vret cx hp dJ7_fill_53178_20 hf
  exact wJ7_fill_53178_5 F cx a0 ra0 a1 ra1 x1 rx1 j20 hj20 F 0 h _ _ ls (by decide) hp (lv_sub hl [2, 3, 1, 0] rfl) hf
theorem dJ7_fill_fda19_0 : decode cJ7_fill_fda19 0 = .ok (.aload_n 0, 1) := by decide +kernel
theorem dJ7_fill_fda19_1 : decode cJ7_fill_fda19 1 = .ok (.arraylength, 1) := by decide +kernel
theorem dJ7_fill_fda19_2 : decode cJ7_fill_fda19 2 = .ok (.iload_n 1, 1) := by decide +kernel
theorem dJ7_fill_fda19_3 : decode cJ7_fill_fda19 3 = .ok (.iload_n 2, 1) := by decide +kernel
theorem dJ7_fill_fda19_4 : decode cJ7_fill_fda19 4 = .ok (.invokestatic 13, 3) := by decide +kernel
theorem dJ7_fill_fda19_7 : decode cJ7_fill_fda19 7 = .ok (.iload_n 1, 1) := by decide +kernel
theorem dJ7_fill_fda19_8 : decode cJ7_fill_fda19 8 = .ok (.istore 4, 2) := by decide +kernel
theorem dJ7_fill_fda19_10 : decode cJ7_fill_fda19 10 = .ok (.iload 4, 2) := by decide +kernel
theorem dJ7_fill_fda19_12 : decode cJ7_fill_fda19 12 = .ok (.iload_n 2, 1) := by decide +kernel
theorem dJ7_fill_fda19_13 : decode cJ7_fill_fda19 13 = .ok (.if_icmp .ge 14, 3) := by decide +kernel
theorem dJ7_fill_fda19_16 : decode cJ7_fill_fda19 16 = .ok (.aload_n 0, 1) := by decide +kernel
theorem dJ7_fill_fda19_17 : decode cJ7_fill_fda19 17 = .ok (.iload 4, 2) := by decide +kernel
theorem dJ7_fill_fda19_19 : decode cJ7_fill_fda19 19 = .ok (.iload_n 3, 1) := by decide +kernel
theorem dJ7_fill_fda19_20 : decode cJ7_fill_fda19 20 = .ok (.iastore, 1) := by decide +kernel
theorem dJ7_fill_fda19_21 : decode cJ7_fill_fda19 21 = .ok (.iinc 4 1, 3) := by decide +kernel
theorem dJ7_fill_fda19_24 : decode cJ7_fill_fda19 24 = .ok (.goto (-14), 3) := by decide +kernel
theorem dJ7_fill_fda19_27 : decode cJ7_fill_fda19 27 = .ok (.return_, 1) := by decide +kernel
def LJ7_fill_fda19_10 (F : Nat) (u0 : Nat) (u2 : Int) (u3 : Int) (k27 : HF → RO) : Nat → Int → HF → RO
  | 0, _, _ => none
  | n + 1, v4, h =>
    if v4 < u2 then (
      zwr h u0 v4 u3 fun h =>
      zlet (wr (v4 + 1)) fun x2 =>
      LJ7_fill_fda19_10 F u0 u2 u3 k27 n x2 h
    ) else (
      k27  h
    )
set_option maxHeartbeats 4000000 in
set_option maxRecDepth 100000 in
theorem wJ7_fill_fda19_10 {p : Program} {l : Launch} {e : Env} {s : State} {m : MethodId} {args : Array Value} {below : List Frame} {meth : Method} {c : Code} {Q : State → Prop} {g : zG} {B : Nat} {o : Int × HF} (F : Nat) (cx : Cx p s m args meth c cJ7_fill_fda19 5 RJ7 none g B) (u0 : Nat) (ru0 : kt u0 = 0) (u2 : Int) (ru2 : rng u2) (u3 : Int) (ru3 : rng u3) (k27 : HF → RO) (hk27 : ∀  (h : HF) (H : Heap) (locs : List Loc) (ls : Array Slot), Hp g B s h H locs → lv_has ls 5 [] → k27  h = some o → W p l e (rmn 1) s m args below meth c H locs 0 0 Q (F0 m 27 ls [])) : ∀ (n : Nat) (v4 : Int) (h : HF) (H : Heap) (locs : List Loc) (ls : Array Slot), rng v4 → Hp g B s h H locs → lv_has ls 5 [(0, .ref (B + u0)), (2, .int (ii u2)), (3, .int (ii u3)), (4, .int (ii v4))] → LJ7_fill_fda19_10 F u0 u2 u3 k27 n v4 h = some o → W p l e (rmn 1) s m args below meth c H locs 0 0 Q (F0 m 10 ls []) := by
  intro n
  induction n with
  | zero =>
    intro v4 h H locs ls rv4 hp hl hf
    cases hf
  | succ n ih =>
    intro v4 h H locs ls rv4 hp hl hf
    rw [LJ7_fill_fda19_10] at hf
    refine lv_iload cx.1 cx.2.1 dJ7_fill_fda19_10 (lv_at hl 3 rfl) ?_
    refine lv_iload_n cx.1 cx.2.1 dJ7_fill_fda19_12 rfl (lv_at hl 1 rfl) ?_
    refine z_icmp_ge cx rv4 ru2 (tgt := 27) dJ7_fill_fda19_13 (by decide) hf (fun _ hf => ?_) (fun _ hf => ?_)
    · refine lv_aload_n cx.1 cx.2.1 dJ7_fill_fda19_16 rfl (lv_at hl 0 rfl) ?_
      refine lv_iload cx.1 cx.2.1 dJ7_fill_fda19_17 (lv_at hl 3 rfl) ?_
      refine lv_iload_n cx.1 cx.2.1 dJ7_fill_fda19_19 rfl (lv_at hl 2 rfl) ?_
      refine z_iast cx hp ru0 rv4 ru3 dJ7_fill_fda19_20 hf (fun h H locs hp hf => ?_)
      refine z_iinc cx (fun x2 => [(4, .int (ii x2)), (0, .ref (B + u0)), (2, .int (ii u2)), (3, .int (ii u3))]) dJ7_fill_fda19_21 hl (k := 3) rfl (by decide) (fun _ => rfl) hf (fun x2 rx2 hf ls hl => ?_)
      refine lv_goto (tgt := 10) cx.1 cx.2.1 dJ7_fill_fda19_24 (by decide) ?_
      exact ih x2 h _ _ ls rx2 hp (lv_sub hl [1, 2, 3, 0] rfl) hf
    · exact hk27  h _ _ ls  hp (lv_sub hl [] rfl) hf
def fJ7_fill_fda19 (F : Nat) (a0 : Nat) (a1 : Int) (a2 : Int) (a3 : Int) (h : HF) : RO :=
  zbd (fJ7_rangeCheck_23922 F (kl a0 : Int) a1 a2 h) fun _ h =>
  zjn (fun  (h : HF) => (
    some (0, h)
  )) fun j27 =>
  LJ7_fill_fda19_10 F a0 a2 a3 j27 F a1 h
set_option maxHeartbeats 4000000 in
set_option maxRecDepth 100000 in
theorem mJ7_fill_fda19 (F : Nat) (l : Launch) (g : zG) (B : Nat) (h : HF) (a0 : Nat) (a1 : Int) (a2 : Int) (a3 : Int) (ra0 : kt a0 = 0) (ra1 : rng a1) (ra2 : rng a2) (ra3 : rng a3) : CTv l g B yJ7_fill_fda19 cJ7_fill_fda19 5 1 [.ref (B + a0), .int (ii a1), .int (ii a2), .int (ii a3)] h (fJ7_fill_fda19 F a0 a1 a2 a3 h) := by
  refine z_enterV (by decide) rfl (Nat.le_of_ble_eq_true rfl) ?_
  intro p e s m args below meth c ls o Q cx hp hl hf hQ
  have hl : lv_has ls 5 [(0, .ref (B + a0)), (1, .int (ii a1)), (2, .int (ii a2)), (3, .int (ii a3))] := hl
  unfold fJ7_fill_fda19 at hf
  refine lv_aload_n cx.1 cx.2.1 dJ7_fill_fda19_0 rfl (lv_at hl 0 rfl) ?_
  refine z_alen cx hp ra0 dJ7_fill_fda19_1 ?_
  refine lv_iload_n cx.1 cx.2.1 dJ7_fill_fda19_2 rfl (lv_at hl 1 rfl) ?_
  refine lv_iload_n cx.1 cx.2.1 dJ7_fill_fda19_3 rfl (lv_at hl 2 rfl) ?_
  refine z_cv cx hp (fun o' hx => zrunS (n := 1) (As := [.int (ii (kl a0 : Int)), .int (ii a1), .int (ii a2)]) (rest := []) cx hp (mJ7_rangeCheck_23922 F l g B h (kl a0 : Int) a1 a2 (rng_kl ra0 (by decide)) ra1 ra2 o' hx) sw_J7_rangeCheck_23922 ml_J7_13 (by decide) rfl hl.1 rfl (Nat.le_of_ble_eq_true rfl) dJ7_fill_fda19_4) hf (fun _ h H locs hp hf => ?_)
  refine lv_iload_n cx.1 cx.2.1 dJ7_fill_fda19_7 rfl (lv_at hl 1 rfl) ?_
  refine lv_istore (lv' := [(4, .int (ii a1)), (0, .ref (B + a0)), (1, .int (ii a1)), (2, .int (ii a2)), (3, .int (ii a3))]) cx.1 cx.2.1 dJ7_fill_fda19_8 hl (by decide) rfl (fun ls hl => ?_)
  refine z_jn hf (fun j => ∀  (h : HF) (H : Heap) (locs : List Loc) (ls : Array Slot), Hp g B s h H locs → lv_has ls 5 [] → j  h = some o → W p l e (rmn 1) s m args below meth c H locs 0 0 Q (F0 m 27 ls [])) ?_ (fun j27 hj27 hf => ?_)
  · intro  h H locs ls  hp hl hf
    rw [hQ]; exact z_vret cx hp dJ7_fill_fda19_27 hf
  exact wJ7_fill_fda19_10 F cx a0 ra0 a2 ra2 a3 ra3 j27 hj27 F a1 h _ _ ls ra1 hp (lv_sub hl [1, 3, 4, 0] rfl) hf
theorem dX0_empty_0 : decode cX0_empty 0 = .ok (.aload_n 0, 1) := by decide +kernel
theorem dX0_empty_1 : decode cX0_empty 1 = .ok (.iconst 0, 1) := by decide +kernel
theorem dX0_empty_2 : decode cX0_empty 2 = .ok (.invokevirtual 25, 3) := by decide +kernel
theorem dX0_empty_5 : decode cX0_empty 5 = .ok (.return_, 1) := by decide +kernel
def fX0_empty (F : Nat) (a0 : Nat) (h : HF) : RO :=
  zbd (fX0_begin F a0 0 h) fun _ h =>
  some (0, h)
set_option maxHeartbeats 4000000 in
set_option maxRecDepth 100000 in
theorem mX0_empty (F : Nat) (l : Launch) (g : zG) (B : Nat) (h : HF) (a0 : Nat) (ra0 : kt a0 = 3) : CTv l g B yX0_empty cX0_empty 1 1 [.ref (B + a0)] h (fX0_empty F a0 h) := by
  refine z_enterV (by decide) rfl (Nat.le_of_ble_eq_true rfl) ?_
  intro p e s m args below meth c ls o Q cx hp hl hf hQ
  have hl : lv_has ls 1 [(0, .ref (B + a0))] := hl
  unfold fX0_empty at hf
  refine lv_aload_n cx.1 cx.2.1 dX0_empty_0 rfl (lv_at hl 0 rfl) ?_
  refine z_iconst cx dX0_empty_1 ?_
  refine z_cv cx hp (fun o' hx => zrunV (n := 1) (As := [.int (ii 0)]) (rest := []) cx hp (mX0_begin F l g B h a0 0 ra0 (by decide) o' hx) 0 ra0 (by decide) rfl vw_X0_begin ml_X0_25 (by decide) rfl hl.1 rfl (Nat.le_of_ble_eq_true rfl) dX0_empty_2) hf (fun _ h H locs hp hf => ?_)
  rw [hQ]; exact z_vret cx hp dX0_empty_5 hf
theorem dX0_addOperation_0 : decode cX0_addOperation 0 = .ok (.aload_n 0, 1) := by decide +kernel
theorem dX0_addOperation_1 : decode cX0_addOperation 1 = .ok (.getfield 29, 3) := by decide +kernel
theorem dX0_addOperation_4 : decode cX0_addOperation 4 = .ok (.iconst 4, 1) := by decide +kernel
theorem dX0_addOperation_5 : decode cX0_addOperation 5 = .ok (.if_icmp .lt 4, 3) := by decide +kernel
theorem dX0_addOperation_8 : decode cX0_addOperation 8 = .ok (.return_, 1) := by decide +kernel
theorem dX0_addOperation_9 : decode cX0_addOperation 9 = .ok (.iload_n 1, 1) := by decide +kernel
theorem dX0_addOperation_10 : decode cX0_addOperation 10 = .ok (.iconst 1, 1) := by decide +kernel
theorem dX0_addOperation_11 : decode cX0_addOperation 11 = .ok (.iadd, 1) := by decide +kernel
theorem dX0_addOperation_12 : decode cX0_addOperation 12 = .ok (.istore_n 2, 1) := by decide +kernel
theorem dX0_addOperation_13 : decode cX0_addOperation 13 = .ok (.iconst 0, 1) := by decide +kernel
theorem dX0_addOperation_14 : decode cX0_addOperation 14 = .ok (.istore_n 3, 1) := by decide +kernel
theorem dX0_addOperation_15 : decode cX0_addOperation 15 = .ok (.iload_n 3, 1) := by decide +kernel
theorem dX0_addOperation_16 : decode cX0_addOperation 16 = .ok (.aload_n 0, 1) := by decide +kernel
theorem dX0_addOperation_17 : decode cX0_addOperation 17 = .ok (.getfield 29, 3) := by decide +kernel
theorem dX0_addOperation_20 : decode cX0_addOperation 20 = .ok (.if_icmp .ge 14, 3) := by decide +kernel
theorem dX0_addOperation_23 : decode cX0_addOperation 23 = .ok (.iload_n 2, 1) := by decide +kernel
theorem dX0_addOperation_24 : decode cX0_addOperation 24 = .ok (.bipush 10, 2) := by decide +kernel
theorem dX0_addOperation_26 : decode cX0_addOperation 26 = .ok (.imul, 1) := by decide +kernel
theorem dX0_addOperation_27 : decode cX0_addOperation 27 = .ok (.istore_n 2, 1) := by decide +kernel
theorem dX0_addOperation_28 : decode cX0_addOperation 28 = .ok (.iinc 3 1, 3) := by decide +kernel
theorem dX0_addOperation_31 : decode cX0_addOperation 31 = .ok (.goto (-16), 3) := by decide +kernel
theorem dX0_addOperation_34 : decode cX0_addOperation 34 = .ok (.aload_n 0, 1) := by decide +kernel
theorem dX0_addOperation_35 : decode cX0_addOperation 35 = .ok (.dup, 1) := by decide +kernel
theorem dX0_addOperation_36 : decode cX0_addOperation 36 = .ok (.getfield 32, 3) := by decide +kernel
theorem dX0_addOperation_39 : decode cX0_addOperation 39 = .ok (.iload_n 2, 1) := by decide +kernel
theorem dX0_addOperation_40 : decode cX0_addOperation 40 = .ok (.iadd, 1) := by decide +kernel
theorem dX0_addOperation_41 : decode cX0_addOperation 41 = .ok (.putfield 32, 3) := by decide +kernel
theorem dX0_addOperation_44 : decode cX0_addOperation 44 = .ok (.aload_n 0, 1) := by decide +kernel
theorem dX0_addOperation_45 : decode cX0_addOperation 45 = .ok (.getfield 9, 3) := by decide +kernel
theorem dX0_addOperation_48 : decode cX0_addOperation 48 = .ok (.aload_n 0, 1) := by decide +kernel
theorem dX0_addOperation_49 : decode cX0_addOperation 49 = .ok (.getfield 29, 3) := by decide +kernel
theorem dX0_addOperation_52 : decode cX0_addOperation 52 = .ok (.iload_n 1, 1) := by decide +kernel
theorem dX0_addOperation_53 : decode cX0_addOperation 53 = .ok (.iastore, 1) := by decide +kernel
theorem dX0_addOperation_54 : decode cX0_addOperation 54 = .ok (.aload_n 0, 1) := by decide +kernel
theorem dX0_addOperation_55 : decode cX0_addOperation 55 = .ok (.dup, 1) := by decide +kernel
theorem dX0_addOperation_56 : decode cX0_addOperation 56 = .ok (.getfield 29, 3) := by decide +kernel
theorem dX0_addOperation_59 : decode cX0_addOperation 59 = .ok (.iconst 1, 1) := by decide +kernel
theorem dX0_addOperation_60 : decode cX0_addOperation 60 = .ok (.iadd, 1) := by decide +kernel
theorem dX0_addOperation_61 : decode cX0_addOperation 61 = .ok (.putfield 29, 3) := by decide +kernel
theorem dX0_addOperation_64 : decode cX0_addOperation 64 = .ok (.aload_n 0, 1) := by decide +kernel
theorem dX0_addOperation_65 : decode cX0_addOperation 65 = .ok (.getfield 29, 3) := by decide +kernel
theorem dX0_addOperation_68 : decode cX0_addOperation 68 = .ok (.iconst 1, 1) := by decide +kernel
theorem dX0_addOperation_69 : decode cX0_addOperation 69 = .ok (.isub, 1) := by decide +kernel
theorem dX0_addOperation_70 : decode cX0_addOperation 70 = .ok (.istore_n 3, 1) := by decide +kernel
theorem dX0_addOperation_71 : decode cX0_addOperation 71 = .ok (.aload_n 0, 1) := by decide +kernel
theorem dX0_addOperation_72 : decode cX0_addOperation 72 = .ok (.getfield 15, 3) := by decide +kernel
theorem dX0_addOperation_75 : decode cX0_addOperation 75 = .ok (.aload_n 0, 1) := by decide +kernel
theorem dX0_addOperation_76 : decode cX0_addOperation 76 = .ok (.getfield 29, 3) := by decide +kernel
theorem dX0_addOperation_79 : decode cX0_addOperation 79 = .ok (.aload_n 0, 1) := by decide +kernel
theorem dX0_addOperation_80 : decode cX0_addOperation 80 = .ok (.getfield 15, 3) := by decide +kernel
theorem dX0_addOperation_83 : decode cX0_addOperation 83 = .ok (.iload_n 3, 1) := by decide +kernel
theorem dX0_addOperation_84 : decode cX0_addOperation 84 = .ok (.iaload, 1) := by decide +kernel
theorem dX0_addOperation_85 : decode cX0_addOperation 85 = .ok (.aload_n 0, 1) := by decide +kernel
theorem dX0_addOperation_86 : decode cX0_addOperation 86 = .ok (.iload_n 3, 1) := by decide +kernel
theorem dX0_addOperation_87 : decode cX0_addOperation 87 = .ok (.invokevirtual 35, 3) := by decide +kernel
theorem dX0_addOperation_90 : decode cX0_addOperation 90 = .ok (.aload_n 0, 1) := by decide +kernel
theorem dX0_addOperation_91 : decode cX0_addOperation 91 = .ok (.iload_n 3, 1) := by decide +kernel
theorem dX0_addOperation_92 : decode cX0_addOperation 92 = .ok (.invokevirtual 39, 3) := by decide +kernel
theorem dX0_addOperation_95 : decode cX0_addOperation 95 = .ok (.imul, 1) := by decide +kernel
theorem dX0_addOperation_96 : decode cX0_addOperation 96 = .ok (.iadd, 1) := by decide +kernel
theorem dX0_addOperation_97 : decode cX0_addOperation 97 = .ok (.iastore, 1) := by decide +kernel
theorem dX0_addOperation_98 : decode cX0_addOperation 98 = .ok (.aload_n 0, 1) := by decide +kernel
theorem dX0_addOperation_99 : decode cX0_addOperation 99 = .ok (.getfield 18, 3) := by decide +kernel
theorem dX0_addOperation_102 : decode cX0_addOperation 102 = .ok (.aload_n 0, 1) := by decide +kernel
theorem dX0_addOperation_103 : decode cX0_addOperation 103 = .ok (.getfield 15, 3) := by decide +kernel
theorem dX0_addOperation_106 : decode cX0_addOperation 106 = .ok (.iload_n 3, 1) := by decide +kernel
theorem dX0_addOperation_107 : decode cX0_addOperation 107 = .ok (.iaload, 1) := by decide +kernel
theorem dX0_addOperation_108 : decode cX0_addOperation 108 = .ok (.aload_n 0, 1) := by decide +kernel
theorem dX0_addOperation_109 : decode cX0_addOperation 109 = .ok (.getfield 15, 3) := by decide +kernel
theorem dX0_addOperation_112 : decode cX0_addOperation 112 = .ok (.aload_n 0, 1) := by decide +kernel
theorem dX0_addOperation_113 : decode cX0_addOperation 113 = .ok (.getfield 29, 3) := by decide +kernel
theorem dX0_addOperation_116 : decode cX0_addOperation 116 = .ok (.iaload, 1) := by decide +kernel
theorem dX0_addOperation_117 : decode cX0_addOperation 117 = .ok (.iconst 0, 1) := by decide +kernel
theorem dX0_addOperation_118 : decode cX0_addOperation 118 = .ok (.invokestatic 42, 3) := by decide +kernel
theorem dX0_addOperation_121 : decode cX0_addOperation 121 = .ok (.return_, 1) := by decide +kernel
def LX0_addOperation_15 (F : Nat) (u0 : Nat) (u1 : Int) (k34 : Int → HF → RO) : Nat → Int → Int → HF → RO
  | 0, _, _, _ => none
  | n + 1, v2, v3, h =>
    zgf h u0 1 fun x16 =>
    if v3 < x16 then (
      zlet (wr (v2 * 10)) fun x17 =>
      zlet (wr (v3 + 1)) fun x18 =>
      LX0_addOperation_15 F u0 u1 k34 n x17 x18 h
    ) else (
      k34 v2 h
    )
set_option maxHeartbeats 4000000 in
set_option maxRecDepth 100000 in
theorem wX0_addOperation_15 {p : Program} {l : Launch} {e : Env} {s : State} {m : MethodId} {args : Array Value} {below : List Frame} {meth : Method} {c : Code} {Q : State → Prop} {g : zG} {B : Nat} {o : Int × HF} (F : Nat) (cx : Cx p s m args meth c cX0_addOperation 4 RX0 none g B) (u0 : Nat) (ru0 : kt u0 = 3) (u1 : Int) (ru1 : rng u1) (k34 : Int → HF → RO) (hk34 : ∀ (x2 : Int) (h : HF) (H : Heap) (locs : List Loc) (ls : Array Slot), rng x2 → Hp g B s h H locs → lv_has ls 4 [(0, .ref (B + u0)), (1, .int (ii u1)), (2, .int (ii x2))] → k34 x2 h = some o → W p l e (rmn 2) s m args below meth c H locs 0 0 Q (F0 m 34 ls [])) : ∀ (n : Nat) (v2 : Int) (v3 : Int) (h : HF) (H : Heap) (locs : List Loc) (ls : Array Slot), rng v2 → rng v3 → Hp g B s h H locs → lv_has ls 4 [(0, .ref (B + u0)), (1, .int (ii u1)), (2, .int (ii v2)), (3, .int (ii v3))] → LX0_addOperation_15 F u0 u1 k34 n v2 v3 h = some o → W p l e (rmn 2) s m args below meth c H locs 0 0 Q (F0 m 15 ls []) := by
  intro n
  induction n with
  | zero =>
    intro v2 v3 h H locs ls rv2 rv3 hp hl hf
    cases hf
  | succ n ih =>
    intro v2 v3 h H locs ls rv2 rv3 hp hl hf
    rw [LX0_addOperation_15] at hf
    refine lv_iload_n cx.1 cx.2.1 dX0_addOperation_15 rfl (lv_at hl 3 rfl) ?_
    refine lv_aload_n cx.1 cx.2.1 dX0_addOperation_16 rfl (lv_at hl 0 rfl) ?_
    refine z_geti cx hp (T := TX0) 0 1 rfl zin_0 (by decide) (by decide) ru0 rfl fl_X0_29 dX0_addOperation_17 hf (fun x16 rx16 hf => ?_)
    refine z_icmp_ge cx rv3 rx16 (tgt := 34) dX0_addOperation_20 (by decide) hf (fun _ hf => ?_) (fun _ hf => ?_)
    · refine lv_iload_n cx.1 cx.2.1 dX0_addOperation_23 rfl (lv_at hl 2 rfl) ?_
      refine z_bipush cx (by decide) dX0_addOperation_24 ?_
      refine z_imul cx dX0_addOperation_26 ?_
      refine z_let (rng_wr _) hf (fun x17 rx17 hf => ?_)
      refine lv_istore_n (lv' := [(2, .int (ii x17)), (0, .ref (B + u0)), (1, .int (ii u1)), (3, .int (ii v3))]) cx.1 cx.2.1 dX0_addOperation_27 rfl hl (by decide) rfl (fun ls hl => ?_)
      refine z_iinc cx (fun x18 => [(3, .int (ii x18)), (2, .int (ii x17)), (0, .ref (B + u0)), (1, .int (ii u1))]) dX0_addOperation_28 hl (k := 3) rfl (by decide) (fun _ => rfl) hf (fun x18 rx18 hf ls hl => ?_)
      refine lv_goto (tgt := 15) cx.1 cx.2.1 dX0_addOperation_31 (by decide) ?_
      exact ih x17 x18 h _ _ ls rx17 rx18 hp (lv_sub hl [2, 3, 1, 0] rfl) hf
    · exact hk34 v2 h _ _ ls rv2 hp (lv_sub hl [0, 1, 2] rfl) hf
def fX0_addOperation (F : Nat) (a0 : Nat) (a1 : Int) (h : HF) : RO :=
  zgf h a0 1 fun x1 =>
  if x1 < 4 then (
    zlet (wr (a1 + 1)) fun x2 =>
    zjn (fun (x34_2 : Int) (h : HF) => (
      zgf h a0 2 fun x3 =>
      zpf h a0 2 (wr (x3 + x34_2)) fun h =>
      zgf h a0 1 fun x4 =>
      zwr h (a0 + 1) x4 a1 fun h =>
      zgf h a0 1 fun x5 =>
      zpf h a0 1 (wr (x5 + 1)) fun h =>
      zgf h a0 1 fun x6 =>
      zlet (wr (x6 - 1)) fun x7 =>
      zgf h a0 1 fun x8 =>
      zrd h (a0 + 2) x7 fun x9 =>
      zbd (fX0_rows F a0 x7 h) fun r10 h =>
      zbd (fX0_columns F a0 x7 h) fun r11 h =>
      zwr h (a0 + 2) x8 (wr (x9 + (wr (r10 * r11)))) fun h =>
      zrd h (a0 + 2) x7 fun x12 =>
      zgf h a0 1 fun x13 =>
      zrd h (a0 + 2) x13 fun x14 =>
      zbd (fJ7_fill_fda19 F (a0 + 3) x12 x14 0 h) fun _ h =>
      some (0, h)
    )) fun j34 =>
    LX0_addOperation_15 F a0 a1 j34 F x2 0 h
  ) else (
    some (0, h)
  )
set_option maxHeartbeats 4000000 in
set_option maxRecDepth 100000 in
theorem mX0_addOperation (F : Nat) (l : Launch) (g : zG) (B : Nat) (h : HF) (a0 : Nat) (a1 : Int) (ra0 : kt a0 = 3) (ra1 : rng a1) : CTv l g B yX0_addOperation cX0_addOperation 4 2 [.ref (B + a0), .int (ii a1)] h (fX0_addOperation F a0 a1 h) := by
  refine z_enterV (by decide) rfl (Nat.le_of_ble_eq_true rfl) ?_
  intro p e s m args below meth c ls o Q cx hp hl hf hQ
  have hl : lv_has ls 4 [(0, .ref (B + a0)), (1, .int (ii a1))] := hl
  unfold fX0_addOperation at hf
  refine lv_aload_n cx.1 cx.2.1 dX0_addOperation_0 rfl (lv_at hl 0 rfl) ?_
  refine z_geti cx hp (T := TX0) 0 1 rfl zin_0 (by decide) (by decide) ra0 rfl fl_X0_29 dX0_addOperation_1 hf (fun x1 rx1 hf => ?_)
  refine z_iconst cx dX0_addOperation_4 ?_
  refine z_icmp_lt cx rx1 (by decide) (tgt := 9) dX0_addOperation_5 (by decide) hf (fun _ hf => ?_) (fun _ hf => ?_)
  · refine lv_iload_n cx.1 cx.2.1 dX0_addOperation_9 rfl (lv_at hl 1 rfl) ?_
    refine z_iconst cx dX0_addOperation_10 ?_
    refine z_iadd cx dX0_addOperation_11 ?_
    refine z_let (rng_wr _) hf (fun x2 rx2 hf => ?_)
    refine lv_istore_n (lv' := [(2, .int (ii x2)), (0, .ref (B + a0)), (1, .int (ii a1))]) cx.1 cx.2.1 dX0_addOperation_12 rfl hl (by decide) rfl (fun ls hl => ?_)
    refine z_iconst cx dX0_addOperation_13 ?_
    refine lv_istore_n (lv' := [(3, .int (ii 0)), (2, .int (ii x2)), (0, .ref (B + a0)), (1, .int (ii a1))]) cx.1 cx.2.1 dX0_addOperation_14 rfl hl (by decide) rfl (fun ls hl => ?_)
    refine z_jn hf (fun j => ∀ (x34_2 : Int) (h : HF) (H : Heap) (locs : List Loc) (ls : Array Slot), rng x34_2 → Hp g B s h H locs → lv_has ls 4 [(0, .ref (B + a0)), (1, .int (ii a1)), (2, .int (ii x34_2))] → j x34_2 h = some o → W p l e (rmn 2) s m args below meth c H locs 0 0 Q (F0 m 34 ls [])) ?_ (fun j34 hj34 hf => ?_)
    · intro x34_2 h H locs ls rx34_2 hp hl hf
      refine lv_aload_n cx.1 cx.2.1 dX0_addOperation_34 rfl (lv_at hl 0 rfl) ?_
      refine lv_dup cx.1 cx.2.1 dX0_addOperation_35 rfl ?_
      refine z_geti cx hp (T := TX0) 0 2 rfl zin_0 (by decide) (by decide) ra0 rfl fl_X0_32 dX0_addOperation_36 hf (fun x3 rx3 hf => ?_)
      refine lv_iload_n cx.1 cx.2.1 dX0_addOperation_39 rfl (lv_at hl 2 rfl) ?_
      refine z_iadd cx dX0_addOperation_40 ?_
      refine z_puti cx hp (T := TX0) tyX0 tyX0_ok nmX0 0 2 (rng_wr _) rfl zin_0 (by decide) (by decide) ra0 rfl rfl rfl fl_X0_32 dX0_addOperation_41 hf (fun h H locs hp hf => ?_)
      refine lv_aload_n cx.1 cx.2.1 dX0_addOperation_44 rfl (lv_at hl 0 rfl) ?_
      refine z_gets cx hp (T := TX0) 0 3 (a0 + 1) rfl zin_0 (by decide) (by decide) ra0 rfl fl_X0_9 dX0_addOperation_45 ?_
      refine lv_aload_n cx.1 cx.2.1 dX0_addOperation_48 rfl (lv_at hl 0 rfl) ?_
      refine z_geti cx hp (T := TX0) 0 1 rfl zin_0 (by decide) (by decide) ra0 rfl fl_X0_29 dX0_addOperation_49 hf (fun x4 rx4 hf => ?_)
      refine lv_iload_n cx.1 cx.2.1 dX0_addOperation_52 rfl (lv_at hl 1 rfl) ?_
      refine z_iast cx hp (zs_0_3 a0 (kt_lt ra0 (by decide)) ra0) rx4 ra1 dX0_addOperation_53 hf (fun h H locs hp hf => ?_)
      refine lv_aload_n cx.1 cx.2.1 dX0_addOperation_54 rfl (lv_at hl 0 rfl) ?_
      refine lv_dup cx.1 cx.2.1 dX0_addOperation_55 rfl ?_
      refine z_geti cx hp (T := TX0) 0 1 rfl zin_0 (by decide) (by decide) ra0 rfl fl_X0_29 dX0_addOperation_56 hf (fun x5 rx5 hf => ?_)
      refine z_iconst cx dX0_addOperation_59 ?_
      refine z_iadd cx dX0_addOperation_60 ?_
      refine z_puti cx hp (T := TX0) tyX0 tyX0_ok nmX0 0 1 (rng_wr _) rfl zin_0 (by decide) (by decide) ra0 rfl rfl rfl fl_X0_29 dX0_addOperation_61 hf (fun h H locs hp hf => ?_)
      refine lv_aload_n cx.1 cx.2.1 dX0_addOperation_64 rfl (lv_at hl 0 rfl) ?_
      refine z_geti cx hp (T := TX0) 0 1 rfl zin_0 (by decide) (by decide) ra0 rfl fl_X0_29 dX0_addOperation_65 hf (fun x6 rx6 hf => ?_)
      refine z_iconst cx dX0_addOperation_68 ?_
      refine z_isub cx dX0_addOperation_69 ?_
      refine z_let (rng_wr _) hf (fun x7 rx7 hf => ?_)
      refine lv_istore_n (lv' := [(3, .int (ii x7)), (0, .ref (B + a0)), (1, .int (ii a1)), (2, .int (ii x34_2))]) cx.1 cx.2.1 dX0_addOperation_70 rfl hl (by decide) rfl (fun ls hl => ?_)
      refine lv_aload_n cx.1 cx.2.1 dX0_addOperation_71 rfl (lv_at hl 1 rfl) ?_
      refine z_gets cx hp (T := TX0) 0 4 (a0 + 2) rfl zin_0 (by decide) (by decide) ra0 rfl fl_X0_15 dX0_addOperation_72 ?_
      refine lv_aload_n cx.1 cx.2.1 dX0_addOperation_75 rfl (lv_at hl 1 rfl) ?_
      refine z_geti cx hp (T := TX0) 0 1 rfl zin_0 (by decide) (by decide) ra0 rfl fl_X0_29 dX0_addOperation_76 hf (fun x8 rx8 hf => ?_)
      refine lv_aload_n cx.1 cx.2.1 dX0_addOperation_79 rfl (lv_at hl 1 rfl) ?_
      refine z_gets cx hp (T := TX0) 0 4 (a0 + 2) rfl zin_0 (by decide) (by decide) ra0 rfl fl_X0_15 dX0_addOperation_80 ?_
      refine lv_iload_n cx.1 cx.2.1 dX0_addOperation_83 rfl (lv_at hl 0 rfl) ?_
      refine z_iald cx hp (zs_0_4 a0 (kt_lt ra0 (by decide)) ra0) rx7 dX0_addOperation_84 hf (fun x9 rx9 hf => ?_)
      refine lv_aload_n cx.1 cx.2.1 dX0_addOperation_85 rfl (lv_at hl 1 rfl) ?_
      refine lv_iload_n cx.1 cx.2.1 dX0_addOperation_86 rfl (lv_at hl 0 rfl) ?_
      refine z_ci cx hp (fun o' hx => zrunV (n := 2) (As := [.int (ii x7)]) (rest := [.int (ii x9), .int (ii x8), .ref (B + (a0 + 2))]) cx hp (mX0_rows F l g B h a0 x7 ra0 rx7 o' hx) 0 ra0 (by decide) rfl vw_X0_rows ml_X0_35 (by decide) rfl hl.1 rfl (Nat.le_of_ble_eq_true rfl) dX0_addOperation_87) hf (fun r10 h H locs rr10 hp hf => ?_)
      refine lv_aload_n cx.1 cx.2.1 dX0_addOperation_90 rfl (lv_at hl 1 rfl) ?_
      refine lv_iload_n cx.1 cx.2.1 dX0_addOperation_91 rfl (lv_at hl 0 rfl) ?_
      refine z_ci cx hp (fun o' hx => zrunV (n := 2) (As := [.int (ii x7)]) (rest := [.int (ii r10), .int (ii x9), .int (ii x8), .ref (B + (a0 + 2))]) cx hp (mX0_columns F l g B h a0 x7 ra0 rx7 o' hx) 0 ra0 (by decide) rfl vw_X0_columns ml_X0_39 (by decide) rfl hl.1 rfl (Nat.le_of_ble_eq_true rfl) dX0_addOperation_92) hf (fun r11 h H locs rr11 hp hf => ?_)
      refine z_imul cx dX0_addOperation_95 ?_
      refine z_iadd cx dX0_addOperation_96 ?_
      refine z_iast cx hp (zs_0_4 a0 (kt_lt ra0 (by decide)) ra0) rx8 (rng_wr _) dX0_addOperation_97 hf (fun h H locs hp hf => ?_)
      refine lv_aload_n cx.1 cx.2.1 dX0_addOperation_98 rfl (lv_at hl 1 rfl) ?_
      refine z_gets cx hp (T := TX0) 0 5 (a0 + 3) rfl zin_0 (by decide) (by decide) ra0 rfl fl_X0_18 dX0_addOperation_99 ?_
      refine lv_aload_n cx.1 cx.2.1 dX0_addOperation_102 rfl (lv_at hl 1 rfl) ?_
      refine z_gets cx hp (T := TX0) 0 4 (a0 + 2) rfl zin_0 (by decide) (by decide) ra0 rfl fl_X0_15 dX0_addOperation_103 ?_
      refine lv_iload_n cx.1 cx.2.1 dX0_addOperation_106 rfl (lv_at hl 0 rfl) ?_
      refine z_iald cx hp (zs_0_4 a0 (kt_lt ra0 (by decide)) ra0) rx7 dX0_addOperation_107 hf (fun x12 rx12 hf => ?_)
      refine lv_aload_n cx.1 cx.2.1 dX0_addOperation_108 rfl (lv_at hl 1 rfl) ?_
      refine z_gets cx hp (T := TX0) 0 4 (a0 + 2) rfl zin_0 (by decide) (by decide) ra0 rfl fl_X0_15 dX0_addOperation_109 ?_
      refine lv_aload_n cx.1 cx.2.1 dX0_addOperation_112 rfl (lv_at hl 1 rfl) ?_
      refine z_geti cx hp (T := TX0) 0 1 rfl zin_0 (by decide) (by decide) ra0 rfl fl_X0_29 dX0_addOperation_113 hf (fun x13 rx13 hf => ?_)
      refine z_iald cx hp (zs_0_4 a0 (kt_lt ra0 (by decide)) ra0) rx13 dX0_addOperation_116 hf (fun x14 rx14 hf => ?_)
      refine z_iconst cx dX0_addOperation_117 ?_
      refine z_cv cx hp (fun o' hx => zrunS (n := 2) (As := [.ref (B + (a0 + 3)), .int (ii x12), .int (ii x14), .int (ii 0)]) (rest := []) cx hp (mJ7_fill_fda19 F l g B h (a0 + 3) x12 x14 0 (zs_0_5 a0 (kt_lt ra0 (by decide)) ra0) rx12 rx14 (by decide) o' hx) sw_J7_fill_fda19 ml_X0_42 (by decide) rfl hl.1 rfl (Nat.le_of_ble_eq_true rfl) dX0_addOperation_118) hf (fun _ h H locs hp hf => ?_)
      rw [hQ]; exact z_vret cx hp dX0_addOperation_121 hf
    exact wX0_addOperation_15 F cx a0 ra0 a1 ra1 j34 hj34 F x2 0 h _ _ ls rx2 (by decide) hp (lv_sub hl [2, 3, 1, 0] rfl) hf
  · rw [hQ]; exact z_vret cx hp dX0_addOperation_8 hf
theorem dX0_shape_0 : decode cX0_shape 0 = .ok (.aload_n 0, 1) := by decide +kernel
theorem dX0_shape_1 : decode cX0_shape 1 = .ok (.iload_n 1, 1) := by decide +kernel
theorem dX0_shape_2 : decode cX0_shape 2 = .ok (.invokevirtual 25, 3) := by decide +kernel
theorem dX0_shape_5 : decode cX0_shape 5 = .ok (.iload_n 2, 1) := by decide +kernel
theorem dX0_shape_6 : decode cX0_shape 6 = .ok (.istore_n 3, 1) := by decide +kernel
theorem dX0_shape_7 : decode cX0_shape 7 = .ok (.iconst 0, 1) := by decide +kernel
theorem dX0_shape_8 : decode cX0_shape 8 = .ok (.istore 4, 2) := by decide +kernel
theorem dX0_shape_10 : decode cX0_shape 10 = .ok (.iload 4, 2) := by decide +kernel
theorem dX0_shape_12 : decode cX0_shape 12 = .ok (.iconst 4, 1) := by decide +kernel
theorem dX0_shape_13 : decode cX0_shape 13 = .ok (.if_icmp .ge 28, 3) := by decide +kernel
theorem dX0_shape_16 : decode cX0_shape 16 = .ok (.iload_n 3, 1) := by decide +kernel
theorem dX0_shape_17 : decode cX0_shape 17 = .ok (.ifCond .le 24, 3) := by decide +kernel
theorem dX0_shape_20 : decode cX0_shape 20 = .ok (.aload_n 0, 1) := by decide +kernel
theorem dX0_shape_21 : decode cX0_shape 21 = .ok (.iload_n 3, 1) := by decide +kernel
theorem dX0_shape_22 : decode cX0_shape 22 = .ok (.bipush 10, 2) := by decide +kernel
theorem dX0_shape_24 : decode cX0_shape 24 = .ok (.irem, 1) := by decide +kernel
theorem dX0_shape_25 : decode cX0_shape 25 = .ok (.iconst 1, 1) := by decide +kernel
theorem dX0_shape_26 : decode cX0_shape 26 = .ok (.isub, 1) := by decide +kernel
theorem dX0_shape_27 : decode cX0_shape 27 = .ok (.invokevirtual 48, 3) := by decide +kernel
theorem dX0_shape_30 : decode cX0_shape 30 = .ok (.iload_n 3, 1) := by decide +kernel
theorem dX0_shape_31 : decode cX0_shape 31 = .ok (.bipush 10, 2) := by decide +kernel
theorem dX0_shape_33 : decode cX0_shape 33 = .ok (.idiv, 1) := by decide +kernel
theorem dX0_shape_34 : decode cX0_shape 34 = .ok (.istore_n 3, 1) := by decide +kernel
theorem dX0_shape_35 : decode cX0_shape 35 = .ok (.iinc 4 1, 3) := by decide +kernel
theorem dX0_shape_38 : decode cX0_shape 38 = .ok (.goto (-28), 3) := by decide +kernel
theorem dX0_shape_41 : decode cX0_shape 41 = .ok (.return_, 1) := by decide +kernel
def LX0_shape_10 (F : Nat) (u0 : Nat) (k41 : HF → RO) : Nat → Int → Int → HF → RO
  | 0, _, _, _ => none
  | n + 1, v3, v4, h =>
    if v4 < 4 then (
      if 0 < v3 then (
        zdv 10 <|
        zbd (fX0_addOperation F u0 (wr ((wrem v3 10) - 1)) h) fun _ h =>
        zdv 10 <|
        zlet (wdiv v3 10) fun x3 =>
        zlet (wr (v4 + 1)) fun x4 =>
        LX0_shape_10 F u0 k41 n x3 x4 h
      ) else (
        k41  h
      )
    ) else (
      k41  h
    )
set_option maxHeartbeats 4000000 in
set_option maxRecDepth 100000 in
theorem wX0_shape_10 {p : Program} {l : Launch} {e : Env} {s : State} {m : MethodId} {args : Array Value} {below : List Frame} {meth : Method} {c : Code} {Q : State → Prop} {g : zG} {B : Nat} {o : Int × HF} (F : Nat) (cx : Cx p s m args meth c cX0_shape 5 RX0 none g B) (u0 : Nat) (ru0 : kt u0 = 3) (k41 : HF → RO) (hk41 : ∀  (h : HF) (H : Heap) (locs : List Loc) (ls : Array Slot), Hp g B s h H locs → lv_has ls 5 [] → k41  h = some o → W p l e (rmn 3) s m args below meth c H locs 0 0 Q (F0 m 41 ls [])) : ∀ (n : Nat) (v3 : Int) (v4 : Int) (h : HF) (H : Heap) (locs : List Loc) (ls : Array Slot), rng v3 → rng v4 → Hp g B s h H locs → lv_has ls 5 [(0, .ref (B + u0)), (3, .int (ii v3)), (4, .int (ii v4))] → LX0_shape_10 F u0 k41 n v3 v4 h = some o → W p l e (rmn 3) s m args below meth c H locs 0 0 Q (F0 m 10 ls []) := by
  intro n
  induction n with
  | zero =>
    intro v3 v4 h H locs ls rv3 rv4 hp hl hf
    cases hf
  | succ n ih =>
    intro v3 v4 h H locs ls rv3 rv4 hp hl hf
    rw [LX0_shape_10] at hf
    refine lv_iload cx.1 cx.2.1 dX0_shape_10 (lv_at hl 2 rfl) ?_
    refine z_iconst cx dX0_shape_12 ?_
    refine z_icmp_ge cx rv4 (by decide) (tgt := 41) dX0_shape_13 (by decide) hf (fun _ hf => ?_) (fun _ hf => ?_)
    · refine lv_iload_n cx.1 cx.2.1 dX0_shape_16 rfl (lv_at hl 1 rfl) ?_
      refine z_if_le cx rv3 (tgt := 41) dX0_shape_17 (by decide) hf (fun _ hf => ?_) (fun _ hf => ?_)
      · refine lv_aload_n cx.1 cx.2.1 dX0_shape_20 rfl (lv_at hl 0 rfl) ?_
        refine lv_iload_n cx.1 cx.2.1 dX0_shape_21 rfl (lv_at hl 1 rfl) ?_
        refine z_bipush cx (by decide) dX0_shape_22 ?_
        refine z_irem cx rv3 (by decide) dX0_shape_24 hf (fun hf => ?_)
        refine z_iconst cx dX0_shape_25 ?_
        refine z_isub cx dX0_shape_26 ?_
        refine z_cv cx hp (fun o' hx => zrunV (n := 3) (As := [.int (ii (wr ((wrem v3 10) - 1)))]) (rest := []) cx hp (mX0_addOperation F l g B h u0 (wr ((wrem v3 10) - 1)) ru0 (rng_wr _) o' hx) 0 ru0 (by decide) rfl vw_X0_addOperation ml_X0_48 (by decide) rfl hl.1 rfl (Nat.le_of_ble_eq_true rfl) dX0_shape_27) hf (fun _ h H locs hp hf => ?_)
        refine lv_iload_n cx.1 cx.2.1 dX0_shape_30 rfl (lv_at hl 1 rfl) ?_
        refine z_bipush cx (by decide) dX0_shape_31 ?_
        refine z_idiv cx rv3 (by decide) dX0_shape_33 hf (fun hf => ?_)
        refine z_let (rng_div _ _) hf (fun x3 rx3 hf => ?_)
        refine lv_istore_n (lv' := [(3, .int (ii x3)), (0, .ref (B + u0)), (4, .int (ii v4))]) cx.1 cx.2.1 dX0_shape_34 rfl hl (by decide) rfl (fun ls hl => ?_)
        refine z_iinc cx (fun x4 => [(4, .int (ii x4)), (3, .int (ii x3)), (0, .ref (B + u0))]) dX0_shape_35 hl (k := 2) rfl (by decide) (fun _ => rfl) hf (fun x4 rx4 hf ls hl => ?_)
        refine lv_goto (tgt := 10) cx.1 cx.2.1 dX0_shape_38 (by decide) ?_
        exact ih x3 x4 h _ _ ls rx3 rx4 hp (lv_sub hl [2, 1, 0] rfl) hf
      · exact hk41  h _ _ ls  hp (lv_sub hl [] rfl) hf
    · exact hk41  h _ _ ls  hp (lv_sub hl [] rfl) hf
def fX0_shape (F : Nat) (a0 : Nat) (a1 : Int) (a2 : Int) (h : HF) : RO :=
  zbd (fX0_begin F a0 a1 h) fun _ h =>
  zjn (fun  (h : HF) => (
    some (0, h)
  )) fun j41 =>
  LX0_shape_10 F a0 j41 F a2 0 h
set_option maxHeartbeats 4000000 in
set_option maxRecDepth 100000 in
theorem mX0_shape (F : Nat) (l : Launch) (g : zG) (B : Nat) (h : HF) (a0 : Nat) (a1 : Int) (a2 : Int) (ra0 : kt a0 = 3) (ra1 : rng a1) (ra2 : rng a2) : CTv l g B yX0_shape cX0_shape 5 3 [.ref (B + a0), .int (ii a1), .int (ii a2)] h (fX0_shape F a0 a1 a2 h) := by
  refine z_enterV (by decide) rfl (Nat.le_of_ble_eq_true rfl) ?_
  intro p e s m args below meth c ls o Q cx hp hl hf hQ
  have hl : lv_has ls 5 [(0, .ref (B + a0)), (1, .int (ii a1)), (2, .int (ii a2))] := hl
  unfold fX0_shape at hf
  refine lv_aload_n cx.1 cx.2.1 dX0_shape_0 rfl (lv_at hl 0 rfl) ?_
  refine lv_iload_n cx.1 cx.2.1 dX0_shape_1 rfl (lv_at hl 1 rfl) ?_
  refine z_cv cx hp (fun o' hx => zrunV (n := 3) (As := [.int (ii a1)]) (rest := []) cx hp (mX0_begin F l g B h a0 a1 ra0 ra1 o' hx) 0 ra0 (by decide) rfl vw_X0_begin ml_X0_25 (by decide) rfl hl.1 rfl (Nat.le_of_ble_eq_true rfl) dX0_shape_2) hf (fun _ h H locs hp hf => ?_)
  refine lv_iload_n cx.1 cx.2.1 dX0_shape_5 rfl (lv_at hl 2 rfl) ?_
  refine lv_istore_n (lv' := [(3, .int (ii a2)), (0, .ref (B + a0)), (1, .int (ii a1)), (2, .int (ii a2))]) cx.1 cx.2.1 dX0_shape_6 rfl hl (by decide) rfl (fun ls hl => ?_)
  refine z_iconst cx dX0_shape_7 ?_
  refine lv_istore (lv' := [(4, .int (ii 0)), (3, .int (ii a2)), (0, .ref (B + a0)), (1, .int (ii a1)), (2, .int (ii a2))]) cx.1 cx.2.1 dX0_shape_8 hl (by decide) rfl (fun ls hl => ?_)
  refine z_jn hf (fun j => ∀  (h : HF) (H : Heap) (locs : List Loc) (ls : Array Slot), Hp g B s h H locs → lv_has ls 5 [] → j  h = some o → W p l e (rmn 3) s m args below meth c H locs 0 0 Q (F0 m 41 ls [])) ?_ (fun j41 hj41 hf => ?_)
  · intro  h H locs ls  hp hl hf
    rw [hQ]; exact z_vret cx hp dX0_shape_41 hf
  exact wX0_shape_10 F cx a0 ra0 j41 hj41 F a2 0 h _ _ ls ra2 (by decide) hp (lv_sub hl [2, 1, 0] rfl) hf
theorem dX0_copyFrom_0 : decode cX0_copyFrom 0 = .ok (.aload_n 0, 1) := by decide +kernel
theorem dX0_copyFrom_1 : decode cX0_copyFrom 1 = .ok (.aload_n 1, 1) := by decide +kernel
theorem dX0_copyFrom_2 : decode cX0_copyFrom 2 = .ok (.getfield 21, 3) := by decide +kernel
theorem dX0_copyFrom_5 : decode cX0_copyFrom 5 = .ok (.putfield 21, 3) := by decide +kernel
theorem dX0_copyFrom_8 : decode cX0_copyFrom 8 = .ok (.aload_n 0, 1) := by decide +kernel
theorem dX0_copyFrom_9 : decode cX0_copyFrom 9 = .ok (.aload_n 1, 1) := by decide +kernel
theorem dX0_copyFrom_10 : decode cX0_copyFrom 10 = .ok (.getfield 29, 3) := by decide +kernel
theorem dX0_copyFrom_13 : decode cX0_copyFrom 13 = .ok (.putfield 29, 3) := by decide +kernel
theorem dX0_copyFrom_16 : decode cX0_copyFrom 16 = .ok (.aload_n 0, 1) := by decide +kernel
theorem dX0_copyFrom_17 : decode cX0_copyFrom 17 = .ok (.aload_n 1, 1) := by decide +kernel
theorem dX0_copyFrom_18 : decode cX0_copyFrom 18 = .ok (.getfield 32, 3) := by decide +kernel
theorem dX0_copyFrom_21 : decode cX0_copyFrom 21 = .ok (.putfield 32, 3) := by decide +kernel
theorem dX0_copyFrom_24 : decode cX0_copyFrom 24 = .ok (.aload_n 1, 1) := by decide +kernel
theorem dX0_copyFrom_25 : decode cX0_copyFrom 25 = .ok (.getfield 9, 3) := by decide +kernel
theorem dX0_copyFrom_28 : decode cX0_copyFrom 28 = .ok (.iconst 0, 1) := by decide +kernel
theorem dX0_copyFrom_29 : decode cX0_copyFrom 29 = .ok (.aload_n 0, 1) := by decide +kernel
theorem dX0_copyFrom_30 : decode cX0_copyFrom 30 = .ok (.getfield 9, 3) := by decide +kernel
theorem dX0_copyFrom_33 : decode cX0_copyFrom 33 = .ok (.iconst 0, 1) := by decide +kernel
theorem dX0_copyFrom_34 : decode cX0_copyFrom 34 = .ok (.aload_n 0, 1) := by decide +kernel
theorem dX0_copyFrom_35 : decode cX0_copyFrom 35 = .ok (.getfield 29, 3) := by decide +kernel
theorem dX0_copyFrom_38 : decode cX0_copyFrom 38 = .ok (.invokestatic 51, 3) := by decide +kernel
theorem dX0_copyFrom_41 : decode cX0_copyFrom 41 = .ok (.aload_n 1, 1) := by decide +kernel
theorem dX0_copyFrom_42 : decode cX0_copyFrom 42 = .ok (.getfield 15, 3) := by decide +kernel
theorem dX0_copyFrom_45 : decode cX0_copyFrom 45 = .ok (.iconst 0, 1) := by decide +kernel
theorem dX0_copyFrom_46 : decode cX0_copyFrom 46 = .ok (.aload_n 0, 1) := by decide +kernel
theorem dX0_copyFrom_47 : decode cX0_copyFrom 47 = .ok (.getfield 15, 3) := by decide +kernel
theorem dX0_copyFrom_50 : decode cX0_copyFrom 50 = .ok (.iconst 0, 1) := by decide +kernel
theorem dX0_copyFrom_51 : decode cX0_copyFrom 51 = .ok (.aload_n 0, 1) := by decide +kernel
theorem dX0_copyFrom_52 : decode cX0_copyFrom 52 = .ok (.getfield 29, 3) := by decide +kernel
theorem dX0_copyFrom_55 : decode cX0_copyFrom 55 = .ok (.iconst 1, 1) := by decide +kernel
theorem dX0_copyFrom_56 : decode cX0_copyFrom 56 = .ok (.iadd, 1) := by decide +kernel
theorem dX0_copyFrom_57 : decode cX0_copyFrom 57 = .ok (.invokestatic 51, 3) := by decide +kernel
theorem dX0_copyFrom_60 : decode cX0_copyFrom 60 = .ok (.aload_n 1, 1) := by decide +kernel
theorem dX0_copyFrom_61 : decode cX0_copyFrom 61 = .ok (.getfield 18, 3) := by decide +kernel
theorem dX0_copyFrom_64 : decode cX0_copyFrom 64 = .ok (.iconst 0, 1) := by decide +kernel
theorem dX0_copyFrom_65 : decode cX0_copyFrom 65 = .ok (.aload_n 0, 1) := by decide +kernel
theorem dX0_copyFrom_66 : decode cX0_copyFrom 66 = .ok (.getfield 18, 3) := by decide +kernel
theorem dX0_copyFrom_69 : decode cX0_copyFrom 69 = .ok (.iconst 0, 1) := by decide +kernel
theorem dX0_copyFrom_70 : decode cX0_copyFrom 70 = .ok (.aload_n 0, 1) := by decide +kernel
theorem dX0_copyFrom_71 : decode cX0_copyFrom 71 = .ok (.invokevirtual 57, 3) := by decide +kernel
theorem dX0_copyFrom_74 : decode cX0_copyFrom 74 = .ok (.invokestatic 51, 3) := by decide +kernel
theorem dX0_copyFrom_77 : decode cX0_copyFrom 77 = .ok (.return_, 1) := by decide +kernel
def fX0_copyFrom (F : Nat) (a0 : Nat) (a1 : Nat) (h : HF) : RO :=
  zgf h a1 0 fun x1 =>
  zpf h a0 0 x1 fun h =>
  zgf h a1 1 fun x2 =>
  zpf h a0 1 x2 fun h =>
  zgf h a1 2 fun x3 =>
  zpf h a0 2 x3 fun h =>
  zgf h a0 1 fun x4 =>
  zcp h (a1 + 1) 0 (a0 + 1) 0 x4 fun h =>
  zgf h a0 1 fun x5 =>
  zcp h (a1 + 2) 0 (a0 + 2) 0 (wr (x5 + 1)) fun h =>
  zbd (fX0_cellCount F a0 h) fun r6 h =>
  zcp h (a1 + 3) 0 (a0 + 3) 0 r6 fun h =>
  some (0, h)
set_option maxHeartbeats 4000000 in
set_option maxRecDepth 100000 in
theorem mX0_copyFrom (F : Nat) (l : Launch) (g : zG) (B : Nat) (h : HF) (a0 : Nat) (a1 : Nat) (ra0 : kt a0 = 3) (ra1 : kt a1 = 3) : CTv l g B yX0_copyFrom cX0_copyFrom 2 1 [.ref (B + a0), .ref (B + a1)] h (fX0_copyFrom F a0 a1 h) := by
  refine z_enterV (by decide) rfl (Nat.le_of_ble_eq_true rfl) ?_
  intro p e s m args below meth c ls o Q cx hp hl hf hQ
  have hl : lv_has ls 2 [(0, .ref (B + a0)), (1, .ref (B + a1))] := hl
  unfold fX0_copyFrom at hf
  refine lv_aload_n cx.1 cx.2.1 dX0_copyFrom_0 rfl (lv_at hl 0 rfl) ?_
  refine lv_aload_n cx.1 cx.2.1 dX0_copyFrom_1 rfl (lv_at hl 1 rfl) ?_
  refine z_geti cx hp (T := TX0) 0 0 rfl zin_0 (by decide) (by decide) ra1 rfl fl_X0_21 dX0_copyFrom_2 hf (fun x1 rx1 hf => ?_)
  refine z_puti cx hp (T := TX0) tyX0 tyX0_ok nmX0 0 0 rx1 rfl zin_0 (by decide) (by decide) ra0 rfl rfl rfl fl_X0_21 dX0_copyFrom_5 hf (fun h H locs hp hf => ?_)
  refine lv_aload_n cx.1 cx.2.1 dX0_copyFrom_8 rfl (lv_at hl 0 rfl) ?_
  refine lv_aload_n cx.1 cx.2.1 dX0_copyFrom_9 rfl (lv_at hl 1 rfl) ?_
  refine z_geti cx hp (T := TX0) 0 1 rfl zin_0 (by decide) (by decide) ra1 rfl fl_X0_29 dX0_copyFrom_10 hf (fun x2 rx2 hf => ?_)
  refine z_puti cx hp (T := TX0) tyX0 tyX0_ok nmX0 0 1 rx2 rfl zin_0 (by decide) (by decide) ra0 rfl rfl rfl fl_X0_29 dX0_copyFrom_13 hf (fun h H locs hp hf => ?_)
  refine lv_aload_n cx.1 cx.2.1 dX0_copyFrom_16 rfl (lv_at hl 0 rfl) ?_
  refine lv_aload_n cx.1 cx.2.1 dX0_copyFrom_17 rfl (lv_at hl 1 rfl) ?_
  refine z_geti cx hp (T := TX0) 0 2 rfl zin_0 (by decide) (by decide) ra1 rfl fl_X0_32 dX0_copyFrom_18 hf (fun x3 rx3 hf => ?_)
  refine z_puti cx hp (T := TX0) tyX0 tyX0_ok nmX0 0 2 rx3 rfl zin_0 (by decide) (by decide) ra0 rfl rfl rfl fl_X0_32 dX0_copyFrom_21 hf (fun h H locs hp hf => ?_)
  refine lv_aload_n cx.1 cx.2.1 dX0_copyFrom_24 rfl (lv_at hl 1 rfl) ?_
  refine z_gets cx hp (T := TX0) 0 3 (a1 + 1) rfl zin_0 (by decide) (by decide) ra1 rfl fl_X0_9 dX0_copyFrom_25 ?_
  refine z_iconst cx dX0_copyFrom_28 ?_
  refine lv_aload_n cx.1 cx.2.1 dX0_copyFrom_29 rfl (lv_at hl 0 rfl) ?_
  refine z_gets cx hp (T := TX0) 0 3 (a0 + 1) rfl zin_0 (by decide) (by decide) ra0 rfl fl_X0_9 dX0_copyFrom_30 ?_
  refine z_iconst cx dX0_copyFrom_33 ?_
  refine lv_aload_n cx.1 cx.2.1 dX0_copyFrom_34 rfl (lv_at hl 0 rfl) ?_
  refine z_geti cx hp (T := TX0) 0 1 rfl zin_0 (by decide) (by decide) ra0 rfl fl_X0_29 dX0_copyFrom_35 hf (fun x4 rx4 hf => ?_)
  refine z_acopy cx hp (n := 1) (zs_0_3 a1 (kt_lt ra1 (by decide)) ra1) (by decide) (zs_0_3 a0 (kt_lt ra0 (by decide)) ra0) (by decide) rx4 hl.1 (Nat.le_of_ble_eq_true rfl) ma_X0_51 (by decide) dX0_copyFrom_38 hf (fun h H locs hp hf => ?_)
  refine lv_aload_n cx.1 cx.2.1 dX0_copyFrom_41 rfl (lv_at hl 1 rfl) ?_
  refine z_gets cx hp (T := TX0) 0 4 (a1 + 2) rfl zin_0 (by decide) (by decide) ra1 rfl fl_X0_15 dX0_copyFrom_42 ?_
  refine z_iconst cx dX0_copyFrom_45 ?_
  refine lv_aload_n cx.1 cx.2.1 dX0_copyFrom_46 rfl (lv_at hl 0 rfl) ?_
  refine z_gets cx hp (T := TX0) 0 4 (a0 + 2) rfl zin_0 (by decide) (by decide) ra0 rfl fl_X0_15 dX0_copyFrom_47 ?_
  refine z_iconst cx dX0_copyFrom_50 ?_
  refine lv_aload_n cx.1 cx.2.1 dX0_copyFrom_51 rfl (lv_at hl 0 rfl) ?_
  refine z_geti cx hp (T := TX0) 0 1 rfl zin_0 (by decide) (by decide) ra0 rfl fl_X0_29 dX0_copyFrom_52 hf (fun x5 rx5 hf => ?_)
  refine z_iconst cx dX0_copyFrom_55 ?_
  refine z_iadd cx dX0_copyFrom_56 ?_
  refine z_acopy cx hp (n := 1) (zs_0_4 a1 (kt_lt ra1 (by decide)) ra1) (by decide) (zs_0_4 a0 (kt_lt ra0 (by decide)) ra0) (by decide) (rng_wr _) hl.1 (Nat.le_of_ble_eq_true rfl) ma_X0_51 (by decide) dX0_copyFrom_57 hf (fun h H locs hp hf => ?_)
  refine lv_aload_n cx.1 cx.2.1 dX0_copyFrom_60 rfl (lv_at hl 1 rfl) ?_
  refine z_gets cx hp (T := TX0) 0 5 (a1 + 3) rfl zin_0 (by decide) (by decide) ra1 rfl fl_X0_18 dX0_copyFrom_61 ?_
  refine z_iconst cx dX0_copyFrom_64 ?_
  refine lv_aload_n cx.1 cx.2.1 dX0_copyFrom_65 rfl (lv_at hl 0 rfl) ?_
  refine z_gets cx hp (T := TX0) 0 5 (a0 + 3) rfl zin_0 (by decide) (by decide) ra0 rfl fl_X0_18 dX0_copyFrom_66 ?_
  refine z_iconst cx dX0_copyFrom_69 ?_
  refine lv_aload_n cx.1 cx.2.1 dX0_copyFrom_70 rfl (lv_at hl 0 rfl) ?_
  refine z_ci cx hp (fun o' hx => zrunV (n := 1) (As := []) (rest := [.int (ii 0), .ref (B + (a0 + 3)), .int (ii 0), .ref (B + (a1 + 3))]) cx hp (mX0_cellCount F l g B h a0 ra0 o' hx) 0 ra0 (by decide) rfl vw_X0_cellCount ml_X0_57 (by decide) rfl hl.1 rfl (Nat.le_of_ble_eq_true rfl) dX0_copyFrom_71) hf (fun r6 h H locs rr6 hp hf => ?_)
  refine z_acopy cx hp (n := 1) (zs_0_5 a1 (kt_lt ra1 (by decide)) ra1) (by decide) (zs_0_5 a0 (kt_lt ra0 (by decide)) ra0) (by decide) rr6 hl.1 (Nat.le_of_ble_eq_true rfl) ma_X0_51 (by decide) dX0_copyFrom_74 hf (fun h H locs hp hf => ?_)
  rw [hQ]; exact z_vret cx hp dX0_copyFrom_77 hf
theorem dX0_write_0 : decode cX0_write 0 = .ok (.aload_n 1, 1) := by decide +kernel
theorem dX0_write_1 : decode cX0_write 1 = .ok (.iconst 0, 1) := by decide +kernel
theorem dX0_write_2 : decode cX0_write 2 = .ok (.putfield 70, 3) := by decide +kernel
theorem dX0_write_5 : decode cX0_write 5 = .ok (.aload_n 1, 1) := by decide +kernel
theorem dX0_write_6 : decode cX0_write 6 = .ok (.bipush 48, 2) := by decide +kernel
theorem dX0_write_8 : decode cX0_write 8 = .ok (.aload_n 0, 1) := by decide +kernel
theorem dX0_write_9 : decode cX0_write 9 = .ok (.getfield 21, 3) := by decide +kernel
theorem dX0_write_12 : decode cX0_write 12 = .ok (.iadd, 1) := by decide +kernel
theorem dX0_write_13 : decode cX0_write 13 = .ok (.invokevirtual 75, 3) := by decide +kernel
theorem dX0_write_16 : decode cX0_write 16 = .ok (.iconst 0, 1) := by decide +kernel
theorem dX0_write_17 : decode cX0_write 17 = .ok (.istore_n 2, 1) := by decide +kernel
theorem dX0_write_18 : decode cX0_write 18 = .ok (.iload_n 2, 1) := by decide +kernel
theorem dX0_write_19 : decode cX0_write 19 = .ok (.aload_n 0, 1) := by decide +kernel
theorem dX0_write_20 : decode cX0_write 20 = .ok (.getfield 29, 3) := by decide +kernel
theorem dX0_write_23 : decode cX0_write 23 = .ok (.if_icmp .ge 88, 3) := by decide +kernel
theorem dX0_write_26 : decode cX0_write 26 = .ok (.aload_n 1, 1) := by decide +kernel
theorem dX0_write_27 : decode cX0_write 27 = .ok (.bipush 59, 2) := by decide +kernel
theorem dX0_write_29 : decode cX0_write 29 = .ok (.invokevirtual 75, 3) := by decide +kernel
theorem dX0_write_32 : decode cX0_write 32 = .ok (.aload_n 1, 1) := by decide +kernel
theorem dX0_write_33 : decode cX0_write 33 = .ok (.aload_n 0, 1) := by decide +kernel
theorem dX0_write_34 : decode cX0_write 34 = .ok (.getfield 9, 3) := by decide +kernel
theorem dX0_write_37 : decode cX0_write 37 = .ok (.iload_n 2, 1) := by decide +kernel
theorem dX0_write_38 : decode cX0_write 38 = .ok (.iaload, 1) := by decide +kernel
theorem dX0_write_39 : decode cX0_write 39 = .ok (.ifCond .ne 8, 3) := by decide +kernel
theorem dX0_write_42 : decode cX0_write 42 = .ok (.bipush 99, 2) := by decide +kernel
theorem dX0_write_44 : decode cX0_write 44 = .ok (.goto 20, 3) := by decide +kernel
theorem dX0_write_47 : decode cX0_write 47 = .ok (.aload_n 0, 1) := by decide +kernel
theorem dX0_write_48 : decode cX0_write 48 = .ok (.getfield 9, 3) := by decide +kernel
theorem dX0_write_51 : decode cX0_write 51 = .ok (.iload_n 2, 1) := by decide +kernel
theorem dX0_write_52 : decode cX0_write 52 = .ok (.iaload, 1) := by decide +kernel
theorem dX0_write_53 : decode cX0_write 53 = .ok (.iconst 1, 1) := by decide +kernel
theorem dX0_write_54 : decode cX0_write 54 = .ok (.if_icmp .ne 8, 3) := by decide +kernel
theorem dX0_write_57 : decode cX0_write 57 = .ok (.bipush 117, 2) := by decide +kernel
theorem dX0_write_59 : decode cX0_write 59 = .ok (.goto 5, 3) := by decide +kernel
theorem dX0_write_62 : decode cX0_write 62 = .ok (.bipush 98, 2) := by decide +kernel
theorem dX0_write_64 : decode cX0_write 64 = .ok (.invokevirtual 75, 3) := by decide +kernel
theorem dX0_write_67 : decode cX0_write 67 = .ok (.aload_n 0, 1) := by decide +kernel
theorem dX0_write_68 : decode cX0_write 68 = .ok (.getfield 15, 3) := by decide +kernel
theorem dX0_write_71 : decode cX0_write 71 = .ok (.iload_n 2, 1) := by decide +kernel
theorem dX0_write_72 : decode cX0_write 72 = .ok (.iaload, 1) := by decide +kernel
theorem dX0_write_73 : decode cX0_write 73 = .ok (.istore_n 3, 1) := by decide +kernel
theorem dX0_write_74 : decode cX0_write 74 = .ok (.iload_n 3, 1) := by decide +kernel
theorem dX0_write_75 : decode cX0_write 75 = .ok (.aload_n 0, 1) := by decide +kernel
theorem dX0_write_76 : decode cX0_write 76 = .ok (.getfield 15, 3) := by decide +kernel
theorem dX0_write_79 : decode cX0_write 79 = .ok (.iload_n 2, 1) := by decide +kernel
theorem dX0_write_80 : decode cX0_write 80 = .ok (.iconst 1, 1) := by decide +kernel
theorem dX0_write_81 : decode cX0_write 81 = .ok (.iadd, 1) := by decide +kernel
theorem dX0_write_82 : decode cX0_write 82 = .ok (.iaload, 1) := by decide +kernel
theorem dX0_write_83 : decode cX0_write 83 = .ok (.if_icmp .ge 22, 3) := by decide +kernel
theorem dX0_write_86 : decode cX0_write 86 = .ok (.aload_n 1, 1) := by decide +kernel
theorem dX0_write_87 : decode cX0_write 87 = .ok (.bipush 48, 2) := by decide +kernel
theorem dX0_write_89 : decode cX0_write 89 = .ok (.aload_n 0, 1) := by decide +kernel
theorem dX0_write_90 : decode cX0_write 90 = .ok (.getfield 18, 3) := by decide +kernel
theorem dX0_write_93 : decode cX0_write 93 = .ok (.iload_n 3, 1) := by decide +kernel
theorem dX0_write_94 : decode cX0_write 94 = .ok (.iaload, 1) := by decide +kernel
theorem dX0_write_95 : decode cX0_write 95 = .ok (.iadd, 1) := by decide +kernel
theorem dX0_write_96 : decode cX0_write 96 = .ok (.invokevirtual 75, 3) := by decide +kernel
theorem dX0_write_99 : decode cX0_write 99 = .ok (.iinc 3 1, 3) := by decide +kernel
theorem dX0_write_102 : decode cX0_write 102 = .ok (.goto (-28), 3) := by decide +kernel
theorem dX0_write_105 : decode cX0_write 105 = .ok (.iinc 2 1, 3) := by decide +kernel
theorem dX0_write_108 : decode cX0_write 108 = .ok (.goto (-90), 3) := by decide +kernel
theorem dX0_write_111 : decode cX0_write 111 = .ok (.return_, 1) := by decide +kernel
def LX0_write_74 (F : Nat) (u0 : Nat) (u1 : Nat) (u2 : Int) (k105 : Int → HF → RO) : Nat → Int → HF → RO
  | 0, _, _ => none
  | n + 1, v3, h =>
    zrd h (u0 + 2) (wr (u2 + 1)) fun x9 =>
    if v3 < x9 then (
      zrd h (u0 + 3) v3 fun x10 =>
      zbd (fX1_addByte F u1 (wr (48 + x10)) h) fun _ h =>
      zlet (wr (v3 + 1)) fun x12 =>
      LX0_write_74 F u0 u1 u2 k105 n x12 h
    ) else (
      k105 u2 h
    )
set_option maxHeartbeats 4000000 in
set_option maxRecDepth 100000 in
theorem wX0_write_74 {p : Program} {l : Launch} {e : Env} {s : State} {m : MethodId} {args : Array Value} {below : List Frame} {meth : Method} {c : Code} {Q : State → Prop} {g : zG} {B : Nat} {o : Int × HF} (F : Nat) (cx : Cx p s m args meth c cX0_write 4 RX0 none g B) (u0 : Nat) (ru0 : kt u0 = 3) (u1 : Nat) (ru1 : kt u1 = 4) (u2 : Int) (ru2 : rng u2) (k105 : Int → HF → RO) (hk105 : ∀ (x2 : Int) (h : HF) (H : Heap) (locs : List Loc) (ls : Array Slot), rng x2 → Hp g B s h H locs → lv_has ls 4 [(0, .ref (B + u0)), (1, .ref (B + u1)), (2, .int (ii x2))] → k105 x2 h = some o → W p l e (rmn 2) s m args below meth c H locs 0 0 Q (F0 m 105 ls [])) : ∀ (n : Nat) (v3 : Int) (h : HF) (H : Heap) (locs : List Loc) (ls : Array Slot), rng v3 → Hp g B s h H locs → lv_has ls 4 [(0, .ref (B + u0)), (1, .ref (B + u1)), (2, .int (ii u2)), (3, .int (ii v3))] → LX0_write_74 F u0 u1 u2 k105 n v3 h = some o → W p l e (rmn 2) s m args below meth c H locs 0 0 Q (F0 m 74 ls []) := by
  intro n
  induction n with
  | zero =>
    intro v3 h H locs ls rv3 hp hl hf
    cases hf
  | succ n ih =>
    intro v3 h H locs ls rv3 hp hl hf
    rw [LX0_write_74] at hf
    refine lv_iload_n cx.1 cx.2.1 dX0_write_74 rfl (lv_at hl 3 rfl) ?_
    refine lv_aload_n cx.1 cx.2.1 dX0_write_75 rfl (lv_at hl 0 rfl) ?_
    refine z_gets cx hp (T := TX0) 0 4 (u0 + 2) rfl zin_0 (by decide) (by decide) ru0 rfl fl_X0_15 dX0_write_76 ?_
    refine lv_iload_n cx.1 cx.2.1 dX0_write_79 rfl (lv_at hl 2 rfl) ?_
    refine z_iconst cx dX0_write_80 ?_
    refine z_iadd cx dX0_write_81 ?_
    refine z_iald cx hp (zs_0_4 u0 (kt_lt ru0 (by decide)) ru0) (rng_wr _) dX0_write_82 hf (fun x9 rx9 hf => ?_)
    refine z_icmp_ge cx rv3 rx9 (tgt := 105) dX0_write_83 (by decide) hf (fun _ hf => ?_) (fun _ hf => ?_)
    · refine lv_aload_n cx.1 cx.2.1 dX0_write_86 rfl (lv_at hl 1 rfl) ?_
      refine z_bipush cx (by decide) dX0_write_87 ?_
      refine lv_aload_n cx.1 cx.2.1 dX0_write_89 rfl (lv_at hl 0 rfl) ?_
      refine z_gets cx hp (T := TX0) 0 5 (u0 + 3) rfl zin_0 (by decide) (by decide) ru0 rfl fl_X0_18 dX0_write_90 ?_
      refine lv_iload_n cx.1 cx.2.1 dX0_write_93 rfl (lv_at hl 3 rfl) ?_
      refine z_iald cx hp (zs_0_5 u0 (kt_lt ru0 (by decide)) ru0) rv3 dX0_write_94 hf (fun x10 rx10 hf => ?_)
      refine z_iadd cx dX0_write_95 ?_
      refine z_cv cx hp (fun o' hx => zrunV (n := 2) (As := [.int (ii (wr (48 + x10)))]) (rest := []) cx hp (mX1_addByte F l g B h u1 (wr (48 + x10)) ru1 (rng_wr _) o' hx) 1 ru1 (by decide) rfl vw_X1_addByte ml_X0_75 (by decide) rfl hl.1 rfl (Nat.le_of_ble_eq_true rfl) dX0_write_96) hf (fun _ h H locs hp hf => ?_)
      refine z_iinc cx (fun x12 => [(3, .int (ii x12)), (0, .ref (B + u0)), (1, .ref (B + u1)), (2, .int (ii u2))]) dX0_write_99 hl (k := 3) rfl (by decide) (fun _ => rfl) hf (fun x12 rx12 hf ls hl => ?_)
      refine lv_goto (tgt := 74) cx.1 cx.2.1 dX0_write_102 (by decide) ?_
      exact ih x12 h _ _ ls rx12 hp (lv_sub hl [1, 2, 3, 0] rfl) hf
    · exact hk105 u2 h _ _ ls ru2 hp (lv_sub hl [0, 1, 2] rfl) hf
def LX0_write_18 (F : Nat) (u0 : Nat) (u1 : Nat) (k111 : HF → RO) : Nat → Int → HF → RO
  | 0, _, _ => none
  | n + 1, v2, h =>
    zgf h u0 1 fun x3 =>
    if v2 < x3 then (
      zbd (fX1_addByte F u1 59 h) fun _ h =>
      zrd h (u0 + 1) v2 fun x5 =>
      zjn (fun (x64_2 : Int) (y64_0 : Int) (y64_1 : Nat) (h : HF) => (
        zbd (fX1_addByte F y64_1 y64_0 h) fun _ h =>
        zrd h (u0 + 2) x64_2 fun x7 =>
        zjn (fun (x105_2 : Int) (h : HF) => (
          zlet (wr (x105_2 + 1)) fun x8 =>
          LX0_write_18 F u0 u1 k111 n x8 h
        )) fun j105 =>
        LX0_write_74 F u0 u1 x64_2 j105 F x7 h
      )) fun j64 =>
      if x5 = 0 then (
        j64 v2 99 u1 h
      ) else (
        zrd h (u0 + 1) v2 fun x13 =>
        if x13 = 1 then (
          j64 v2 117 u1 h
        ) else (
          j64 v2 98 u1 h
        )
      )
    ) else (
      k111  h
    )
set_option maxHeartbeats 4000000 in
set_option maxRecDepth 100000 in
theorem wX0_write_18 {p : Program} {l : Launch} {e : Env} {s : State} {m : MethodId} {args : Array Value} {below : List Frame} {meth : Method} {c : Code} {Q : State → Prop} {g : zG} {B : Nat} {o : Int × HF} (F : Nat) (cx : Cx p s m args meth c cX0_write 4 RX0 none g B) (u0 : Nat) (ru0 : kt u0 = 3) (u1 : Nat) (ru1 : kt u1 = 4) (k111 : HF → RO) (hk111 : ∀  (h : HF) (H : Heap) (locs : List Loc) (ls : Array Slot), Hp g B s h H locs → lv_has ls 4 [] → k111  h = some o → W p l e (rmn 2) s m args below meth c H locs 0 0 Q (F0 m 111 ls [])) : ∀ (n : Nat) (v2 : Int) (h : HF) (H : Heap) (locs : List Loc) (ls : Array Slot), rng v2 → Hp g B s h H locs → lv_has ls 4 [(0, .ref (B + u0)), (1, .ref (B + u1)), (2, .int (ii v2))] → LX0_write_18 F u0 u1 k111 n v2 h = some o → W p l e (rmn 2) s m args below meth c H locs 0 0 Q (F0 m 18 ls []) := by
  intro n
  induction n with
  | zero =>
    intro v2 h H locs ls rv2 hp hl hf
    cases hf
  | succ n ih =>
    intro v2 h H locs ls rv2 hp hl hf
    rw [LX0_write_18] at hf
    refine lv_iload_n cx.1 cx.2.1 dX0_write_18 rfl (lv_at hl 2 rfl) ?_
    refine lv_aload_n cx.1 cx.2.1 dX0_write_19 rfl (lv_at hl 0 rfl) ?_
    refine z_geti cx hp (T := TX0) 0 1 rfl zin_0 (by decide) (by decide) ru0 rfl fl_X0_29 dX0_write_20 hf (fun x3 rx3 hf => ?_)
    refine z_icmp_ge cx rv2 rx3 (tgt := 111) dX0_write_23 (by decide) hf (fun _ hf => ?_) (fun _ hf => ?_)
    · refine lv_aload_n cx.1 cx.2.1 dX0_write_26 rfl (lv_at hl 1 rfl) ?_
      refine z_bipush cx (by decide) dX0_write_27 ?_
      refine z_cv cx hp (fun o' hx => zrunV (n := 2) (As := [.int (ii 59)]) (rest := []) cx hp (mX1_addByte F l g B h u1 59 ru1 (by decide) o' hx) 1 ru1 (by decide) rfl vw_X1_addByte ml_X0_75 (by decide) rfl hl.1 rfl (Nat.le_of_ble_eq_true rfl) dX0_write_29) hf (fun _ h H locs hp hf => ?_)
      refine lv_aload_n cx.1 cx.2.1 dX0_write_32 rfl (lv_at hl 1 rfl) ?_
      refine lv_aload_n cx.1 cx.2.1 dX0_write_33 rfl (lv_at hl 0 rfl) ?_
      refine z_gets cx hp (T := TX0) 0 3 (u0 + 1) rfl zin_0 (by decide) (by decide) ru0 rfl fl_X0_9 dX0_write_34 ?_
      refine lv_iload_n cx.1 cx.2.1 dX0_write_37 rfl (lv_at hl 2 rfl) ?_
      refine z_iald cx hp (zs_0_3 u0 (kt_lt ru0 (by decide)) ru0) rv2 dX0_write_38 hf (fun x5 rx5 hf => ?_)
      refine z_jn hf (fun j => ∀ (x64_2 : Int) (y64_0 : Int) (y64_1 : Nat) (h : HF) (H : Heap) (locs : List Loc) (ls : Array Slot), rng x64_2 → rng y64_0 → kt y64_1 = 4 → Hp g B s h H locs → lv_has ls 4 [(0, .ref (B + u0)), (1, .ref (B + u1)), (2, .int (ii x64_2))] → j x64_2 y64_0 y64_1 h = some o → W p l e (rmn 2) s m args below meth c H locs 0 0 Q (F0 m 64 ls [.int (ii y64_0), .ref (B + y64_1)])) ?_ (fun j64 hj64 hf => ?_)
      · intro x64_2 y64_0 y64_1 h H locs ls rx64_2 ry64_0 ry64_1 hp hl hf
        refine z_cv cx hp (fun o' hx => zrunV (n := 2) (As := [.int (ii y64_0)]) (rest := []) cx hp (mX1_addByte F l g B h y64_1 y64_0 ry64_1 ry64_0 o' hx) 1 ry64_1 (by decide) rfl vw_X1_addByte ml_X0_75 (by decide) rfl hl.1 rfl (Nat.le_of_ble_eq_true rfl) dX0_write_64) hf (fun _ h H locs hp hf => ?_)
        refine lv_aload_n cx.1 cx.2.1 dX0_write_67 rfl (lv_at hl 0 rfl) ?_
        refine z_gets cx hp (T := TX0) 0 4 (u0 + 2) rfl zin_0 (by decide) (by decide) ru0 rfl fl_X0_15 dX0_write_68 ?_
        refine lv_iload_n cx.1 cx.2.1 dX0_write_71 rfl (lv_at hl 2 rfl) ?_
        refine z_iald cx hp (zs_0_4 u0 (kt_lt ru0 (by decide)) ru0) rx64_2 dX0_write_72 hf (fun x7 rx7 hf => ?_)
        refine lv_istore_n (lv' := [(3, .int (ii x7)), (0, .ref (B + u0)), (1, .ref (B + u1)), (2, .int (ii x64_2))]) cx.1 cx.2.1 dX0_write_73 rfl hl (by decide) rfl (fun ls hl => ?_)
        refine z_jn hf (fun j => ∀ (x105_2 : Int) (h : HF) (H : Heap) (locs : List Loc) (ls : Array Slot), rng x105_2 → Hp g B s h H locs → lv_has ls 4 [(0, .ref (B + u0)), (1, .ref (B + u1)), (2, .int (ii x105_2))] → j x105_2 h = some o → W p l e (rmn 2) s m args below meth c H locs 0 0 Q (F0 m 105 ls [])) ?_ (fun j105 hj105 hf => ?_)
        · intro x105_2 h H locs ls rx105_2 hp hl hf
          refine z_iinc cx (fun x8 => [(2, .int (ii x8)), (0, .ref (B + u0)), (1, .ref (B + u1))]) dX0_write_105 hl (k := 2) rfl (by decide) (fun _ => rfl) hf (fun x8 rx8 hf ls hl => ?_)
          refine lv_goto (tgt := 18) cx.1 cx.2.1 dX0_write_108 (by decide) ?_
          exact ih x8 h _ _ ls rx8 hp (lv_sub hl [1, 2, 0] rfl) hf
        exact wX0_write_74 F cx u0 ru0 u1 ru1 x64_2 rx64_2 j105 hj105 F x7 h _ _ ls rx7 hp (lv_sub hl [1, 2, 3, 0] rfl) hf
      refine z_if_ne cx rx5 (tgt := 47) dX0_write_39 (by decide) hf (fun _ hf => ?_) (fun _ hf => ?_)
      · refine z_bipush cx (by decide) dX0_write_42 ?_
        refine lv_goto (tgt := 64) cx.1 cx.2.1 dX0_write_44 (by decide) ?_
        exact hj64 v2 99 u1 h _ _ ls rv2 (by decide) ru1 hp (lv_sub hl [0, 1, 2] rfl) hf
      · refine lv_aload_n cx.1 cx.2.1 dX0_write_47 rfl (lv_at hl 0 rfl) ?_
        refine z_gets cx hp (T := TX0) 0 3 (u0 + 1) rfl zin_0 (by decide) (by decide) ru0 rfl fl_X0_9 dX0_write_48 ?_
        refine lv_iload_n cx.1 cx.2.1 dX0_write_51 rfl (lv_at hl 2 rfl) ?_
        refine z_iald cx hp (zs_0_3 u0 (kt_lt ru0 (by decide)) ru0) rv2 dX0_write_52 hf (fun x13 rx13 hf => ?_)
        refine z_iconst cx dX0_write_53 ?_
        refine z_icmp_ne cx rx13 (by decide) (tgt := 62) dX0_write_54 (by decide) hf (fun _ hf => ?_) (fun _ hf => ?_)
        · refine z_bipush cx (by decide) dX0_write_57 ?_
          refine lv_goto (tgt := 64) cx.1 cx.2.1 dX0_write_59 (by decide) ?_
          exact hj64 v2 117 u1 h _ _ ls rv2 (by decide) ru1 hp (lv_sub hl [0, 1, 2] rfl) hf
        · refine z_bipush cx (by decide) dX0_write_62 ?_
          exact hj64 v2 98 u1 h _ _ ls rv2 (by decide) ru1 hp (lv_sub hl [0, 1, 2] rfl) hf
    · exact hk111  h _ _ ls  hp (lv_sub hl [] rfl) hf
def fX0_write (F : Nat) (a0 : Nat) (a1 : Nat) (h : HF) : RO :=
  zpf h a1 1 0 fun h =>
  zgf h a0 0 fun x1 =>
  zbd (fX1_addByte F a1 (wr (48 + x1)) h) fun _ h =>
  zjn (fun  (h : HF) => (
    some (0, h)
  )) fun j111 =>
  LX0_write_18 F a0 a1 j111 F 0 h
set_option maxHeartbeats 4000000 in
set_option maxRecDepth 100000 in
theorem mX0_write (F : Nat) (l : Launch) (g : zG) (B : Nat) (h : HF) (a0 : Nat) (a1 : Nat) (ra0 : kt a0 = 3) (ra1 : kt a1 = 4) : CTv l g B yX0_write cX0_write 4 2 [.ref (B + a0), .ref (B + a1)] h (fX0_write F a0 a1 h) := by
  refine z_enterV (by decide) rfl (Nat.le_of_ble_eq_true rfl) ?_
  intro p e s m args below meth c ls o Q cx hp hl hf hQ
  have hl : lv_has ls 4 [(0, .ref (B + a0)), (1, .ref (B + a1))] := hl
  unfold fX0_write at hf
  refine lv_aload_n cx.1 cx.2.1 dX0_write_0 rfl (lv_at hl 1 rfl) ?_
  refine z_iconst cx dX0_write_1 ?_
  refine z_puti cx hp (T := TX1) tyX1 tyX1_ok nmX1 1 1 (by decide) rfl zin_1 (by decide) (by decide) ra1 rfl rfl rfl fl_X0_70 dX0_write_2 hf (fun h H locs hp hf => ?_)
  refine lv_aload_n cx.1 cx.2.1 dX0_write_5 rfl (lv_at hl 1 rfl) ?_
  refine z_bipush cx (by decide) dX0_write_6 ?_
  refine lv_aload_n cx.1 cx.2.1 dX0_write_8 rfl (lv_at hl 0 rfl) ?_
  refine z_geti cx hp (T := TX0) 0 0 rfl zin_0 (by decide) (by decide) ra0 rfl fl_X0_21 dX0_write_9 hf (fun x1 rx1 hf => ?_)
  refine z_iadd cx dX0_write_12 ?_
  refine z_cv cx hp (fun o' hx => zrunV (n := 2) (As := [.int (ii (wr (48 + x1)))]) (rest := []) cx hp (mX1_addByte F l g B h a1 (wr (48 + x1)) ra1 (rng_wr _) o' hx) 1 ra1 (by decide) rfl vw_X1_addByte ml_X0_75 (by decide) rfl hl.1 rfl (Nat.le_of_ble_eq_true rfl) dX0_write_13) hf (fun _ h H locs hp hf => ?_)
  refine z_iconst cx dX0_write_16 ?_
  refine lv_istore_n (lv' := [(2, .int (ii 0)), (0, .ref (B + a0)), (1, .ref (B + a1))]) cx.1 cx.2.1 dX0_write_17 rfl hl (by decide) rfl (fun ls hl => ?_)
  refine z_jn hf (fun j => ∀  (h : HF) (H : Heap) (locs : List Loc) (ls : Array Slot), Hp g B s h H locs → lv_has ls 4 [] → j  h = some o → W p l e (rmn 2) s m args below meth c H locs 0 0 Q (F0 m 111 ls [])) ?_ (fun j111 hj111 hf => ?_)
  · intro  h H locs ls  hp hl hf
    rw [hQ]; exact z_vret cx hp dX0_write_111 hf
  exact wX0_write_18 F cx a0 ra0 a1 ra1 j111 hj111 F 0 h _ _ ls (by decide) hp (lv_sub hl [1, 2, 0] rfl) hf
theorem dX0_isLatin_0 : decode cX0_isLatin 0 = .ok (.iconst 0, 1) := by decide +kernel
theorem dX0_isLatin_1 : decode cX0_isLatin 1 = .ok (.istore_n 2, 1) := by decide +kernel
theorem dX0_isLatin_2 : decode cX0_isLatin 2 = .ok (.iload_n 2, 1) := by decide +kernel
theorem dX0_isLatin_3 : decode cX0_isLatin 3 = .ok (.aload_n 0, 1) := by decide +kernel
theorem dX0_isLatin_4 : decode cX0_isLatin 4 = .ok (.getfield 21, 3) := by decide +kernel
theorem dX0_isLatin_7 : decode cX0_isLatin 7 = .ok (.if_icmp .ge 79, 3) := by decide +kernel
theorem dX0_isLatin_10 : decode cX0_isLatin 10 = .ok (.iconst 0, 1) := by decide +kernel
theorem dX0_isLatin_11 : decode cX0_isLatin 11 = .ok (.istore_n 3, 1) := by decide +kernel
theorem dX0_isLatin_12 : decode cX0_isLatin 12 = .ok (.iconst 0, 1) := by decide +kernel
theorem dX0_isLatin_13 : decode cX0_isLatin 13 = .ok (.istore 4, 2) := by decide +kernel
theorem dX0_isLatin_15 : decode cX0_isLatin 15 = .ok (.iconst 0, 1) := by decide +kernel
theorem dX0_isLatin_16 : decode cX0_isLatin 16 = .ok (.istore 5, 2) := by decide +kernel
theorem dX0_isLatin_18 : decode cX0_isLatin 18 = .ok (.iload 5, 2) := by decide +kernel
theorem dX0_isLatin_20 : decode cX0_isLatin 20 = .ok (.aload_n 0, 1) := by decide +kernel
theorem dX0_isLatin_21 : decode cX0_isLatin 21 = .ok (.getfield 21, 3) := by decide +kernel
theorem dX0_isLatin_24 : decode cX0_isLatin 24 = .ok (.if_icmp .ge 37, 3) := by decide +kernel
theorem dX0_isLatin_27 : decode cX0_isLatin 27 = .ok (.iload_n 3, 1) := by decide +kernel
theorem dX0_isLatin_28 : decode cX0_isLatin 28 = .ok (.iconst 1, 1) := by decide +kernel
theorem dX0_isLatin_29 : decode cX0_isLatin 29 = .ok (.aload_n 0, 1) := by decide +kernel
theorem dX0_isLatin_30 : decode cX0_isLatin 30 = .ok (.iload_n 1, 1) := by decide +kernel
theorem dX0_isLatin_31 : decode cX0_isLatin 31 = .ok (.iload_n 2, 1) := by decide +kernel
theorem dX0_isLatin_32 : decode cX0_isLatin 32 = .ok (.iload 5, 2) := by decide +kernel
theorem dX0_isLatin_34 : decode cX0_isLatin 34 = .ok (.invokevirtual 99, 3) := by decide +kernel
theorem dX0_isLatin_37 : decode cX0_isLatin 37 = .ok (.ishl, 1) := by decide +kernel
theorem dX0_isLatin_38 : decode cX0_isLatin 38 = .ok (.ior, 1) := by decide +kernel
theorem dX0_isLatin_39 : decode cX0_isLatin 39 = .ok (.istore_n 3, 1) := by decide +kernel
theorem dX0_isLatin_40 : decode cX0_isLatin 40 = .ok (.iload 4, 2) := by decide +kernel
theorem dX0_isLatin_42 : decode cX0_isLatin 42 = .ok (.iconst 1, 1) := by decide +kernel
theorem dX0_isLatin_43 : decode cX0_isLatin 43 = .ok (.aload_n 0, 1) := by decide +kernel
theorem dX0_isLatin_44 : decode cX0_isLatin 44 = .ok (.iload_n 1, 1) := by decide +kernel
theorem dX0_isLatin_45 : decode cX0_isLatin 45 = .ok (.iload 5, 2) := by decide +kernel
theorem dX0_isLatin_47 : decode cX0_isLatin 47 = .ok (.iload_n 2, 1) := by decide +kernel
theorem dX0_isLatin_48 : decode cX0_isLatin 48 = .ok (.invokevirtual 99, 3) := by decide +kernel
theorem dX0_isLatin_51 : decode cX0_isLatin 51 = .ok (.ishl, 1) := by decide +kernel
theorem dX0_isLatin_52 : decode cX0_isLatin 52 = .ok (.ior, 1) := by decide +kernel
theorem dX0_isLatin_53 : decode cX0_isLatin 53 = .ok (.istore 4, 2) := by decide +kernel
theorem dX0_isLatin_55 : decode cX0_isLatin 55 = .ok (.iinc 5 1, 3) := by decide +kernel
theorem dX0_isLatin_58 : decode cX0_isLatin 58 = .ok (.goto (-40), 3) := by decide +kernel
theorem dX0_isLatin_61 : decode cX0_isLatin 61 = .ok (.iload_n 3, 1) := by decide +kernel
theorem dX0_isLatin_62 : decode cX0_isLatin 62 = .ok (.aload_n 0, 1) := by decide +kernel
theorem dX0_isLatin_63 : decode cX0_isLatin 63 = .ok (.invokevirtual 84, 3) := by decide +kernel
theorem dX0_isLatin_66 : decode cX0_isLatin 66 = .ok (.if_icmp .ne 12, 3) := by decide +kernel
theorem dX0_isLatin_69 : decode cX0_isLatin 69 = .ok (.iload 4, 2) := by decide +kernel
theorem dX0_isLatin_71 : decode cX0_isLatin 71 = .ok (.aload_n 0, 1) := by decide +kernel
theorem dX0_isLatin_72 : decode cX0_isLatin 72 = .ok (.invokevirtual 84, 3) := by decide +kernel
theorem dX0_isLatin_75 : decode cX0_isLatin 75 = .ok (.if_icmp .eq 5, 3) := by decide +kernel
theorem dX0_isLatin_80 : decode cX0_isLatin 80 = .ok (.iinc 2 1, 3) := by decide +kernel
theorem dX0_isLatin_83 : decode cX0_isLatin 83 = .ok (.goto (-81), 3) := by decide +kernel
theorem dX0_isLatin_78 : decode cX0_isLatin 78 = .ok (.iconst 0, 1) := by decide +kernel
theorem dX0_isLatin_79 : decode cX0_isLatin 79 = .ok (.ireturn, 1) := by decide +kernel
theorem dX0_isLatin_86 : decode cX0_isLatin 86 = .ok (.iconst 1, 1) := by decide +kernel
theorem dX0_isLatin_87 : decode cX0_isLatin 87 = .ok (.ireturn, 1) := by decide +kernel
def LX0_isLatin_18 (F : Nat) (u0 : Nat) (u1 : Int) (u2 : Int) (k61 : Int → Int → Int → HF → RO) : Nat → Int → Int → Int → HF → RO
  | 0, _, _, _, _ => none
  | n + 1, v3, v4, v5, h =>
    zgf h u0 0 fun x5 =>
    if v5 < x5 then (
      zbd (fX0_value F u0 u1 u2 v5 h) fun r6 h =>
      zlet (wor v3 (wshl 1 r6)) fun x7 =>
      zbd (fX0_value F u0 u1 v5 u2 h) fun r8 h =>
      zlet (wor v4 (wshl 1 r8)) fun x9 =>
      zlet (wr (v5 + 1)) fun x10 =>
      LX0_isLatin_18 F u0 u1 u2 k61 n x7 x9 x10 h
    ) else (
      k61 u2 v3 v4 h
    )
set_option maxHeartbeats 4000000 in
set_option maxRecDepth 100000 in
theorem wX0_isLatin_18 {p : Program} {l : Launch} {e : Env} {s : State} {m : MethodId} {args : Array Value} {below : List Frame} {meth : Method} {c : Code} {Q : State → Prop} {g : zG} {B : Nat} {o : Int × HF} (F : Nat) (cx : Cx p s m args meth c cX0_isLatin 6 RX0 (some .boolean) g B) (u0 : Nat) (ru0 : kt u0 = 3) (u1 : Int) (ru1 : rng u1) (u2 : Int) (ru2 : rng u2) (k61 : Int → Int → Int → HF → RO) (hk61 : ∀ (x2 : Int) (x3 : Int) (x4 : Int) (h : HF) (H : Heap) (locs : List Loc) (ls : Array Slot), rng x2 → rng x3 → rng x4 → Hp g B s h H locs → lv_has ls 6 [(0, .ref (B + u0)), (1, .int (ii u1)), (2, .int (ii x2)), (3, .int (ii x3)), (4, .int (ii x4))] → k61 x2 x3 x4 h = some o → W p l e (rmn 2) s m args below meth c H locs 0 0 Q (F0 m 61 ls [])) : ∀ (n : Nat) (v3 : Int) (v4 : Int) (v5 : Int) (h : HF) (H : Heap) (locs : List Loc) (ls : Array Slot), rng v3 → rng v4 → rng v5 → Hp g B s h H locs → lv_has ls 6 [(0, .ref (B + u0)), (1, .int (ii u1)), (2, .int (ii u2)), (3, .int (ii v3)), (4, .int (ii v4)), (5, .int (ii v5))] → LX0_isLatin_18 F u0 u1 u2 k61 n v3 v4 v5 h = some o → W p l e (rmn 2) s m args below meth c H locs 0 0 Q (F0 m 18 ls []) := by
  intro n
  induction n with
  | zero =>
    intro v3 v4 v5 h H locs ls rv3 rv4 rv5 hp hl hf
    cases hf
  | succ n ih =>
    intro v3 v4 v5 h H locs ls rv3 rv4 rv5 hp hl hf
    rw [LX0_isLatin_18] at hf
    refine lv_iload cx.1 cx.2.1 dX0_isLatin_18 (lv_at hl 5 rfl) ?_
    refine lv_aload_n cx.1 cx.2.1 dX0_isLatin_20 rfl (lv_at hl 0 rfl) ?_
    refine z_geti cx hp (T := TX0) 0 0 rfl zin_0 (by decide) (by decide) ru0 rfl fl_X0_21 dX0_isLatin_21 hf (fun x5 rx5 hf => ?_)
    refine z_icmp_ge cx rv5 rx5 (tgt := 61) dX0_isLatin_24 (by decide) hf (fun _ hf => ?_) (fun _ hf => ?_)
    · refine lv_iload_n cx.1 cx.2.1 dX0_isLatin_27 rfl (lv_at hl 3 rfl) ?_
      refine z_iconst cx dX0_isLatin_28 ?_
      refine lv_aload_n cx.1 cx.2.1 dX0_isLatin_29 rfl (lv_at hl 0 rfl) ?_
      refine lv_iload_n cx.1 cx.2.1 dX0_isLatin_30 rfl (lv_at hl 1 rfl) ?_
      refine lv_iload_n cx.1 cx.2.1 dX0_isLatin_31 rfl (lv_at hl 2 rfl) ?_
      refine lv_iload cx.1 cx.2.1 dX0_isLatin_32 (lv_at hl 5 rfl) ?_
      refine z_ci cx hp (fun o' hx => zrunV (n := 2) (As := [.int (ii u1), .int (ii u2), .int (ii v5)]) (rest := [.int (ii 1), .int (ii v3)]) cx hp (mX0_value F l g B h u0 u1 u2 v5 ru0 ru1 ru2 rv5 o' hx) 0 ru0 (by decide) rfl vw_X0_value ml_X0_99 (by decide) rfl hl.1 rfl (Nat.le_of_ble_eq_true rfl) dX0_isLatin_34) hf (fun r6 h H locs rr6 hp hf => ?_)
      refine z_ishl cx dX0_isLatin_37 ?_
      refine z_ior cx dX0_isLatin_38 ?_
      refine z_let (rng_or _ _) hf (fun x7 rx7 hf => ?_)
      refine lv_istore_n (lv' := [(3, .int (ii x7)), (0, .ref (B + u0)), (1, .int (ii u1)), (2, .int (ii u2)), (4, .int (ii v4)), (5, .int (ii v5))]) cx.1 cx.2.1 dX0_isLatin_39 rfl hl (by decide) rfl (fun ls hl => ?_)
      refine lv_iload cx.1 cx.2.1 dX0_isLatin_40 (lv_at hl 4 rfl) ?_
      refine z_iconst cx dX0_isLatin_42 ?_
      refine lv_aload_n cx.1 cx.2.1 dX0_isLatin_43 rfl (lv_at hl 1 rfl) ?_
      refine lv_iload_n cx.1 cx.2.1 dX0_isLatin_44 rfl (lv_at hl 2 rfl) ?_
      refine lv_iload cx.1 cx.2.1 dX0_isLatin_45 (lv_at hl 5 rfl) ?_
      refine lv_iload_n cx.1 cx.2.1 dX0_isLatin_47 rfl (lv_at hl 3 rfl) ?_
      refine z_ci cx hp (fun o' hx => zrunV (n := 2) (As := [.int (ii u1), .int (ii v5), .int (ii u2)]) (rest := [.int (ii 1), .int (ii v4)]) cx hp (mX0_value F l g B h u0 u1 v5 u2 ru0 ru1 rv5 ru2 o' hx) 0 ru0 (by decide) rfl vw_X0_value ml_X0_99 (by decide) rfl hl.1 rfl (Nat.le_of_ble_eq_true rfl) dX0_isLatin_48) hf (fun r8 h H locs rr8 hp hf => ?_)
      refine z_ishl cx dX0_isLatin_51 ?_
      refine z_ior cx dX0_isLatin_52 ?_
      refine z_let (rng_or _ _) hf (fun x9 rx9 hf => ?_)
      refine lv_istore (lv' := [(4, .int (ii x9)), (3, .int (ii x7)), (0, .ref (B + u0)), (1, .int (ii u1)), (2, .int (ii u2)), (5, .int (ii v5))]) cx.1 cx.2.1 dX0_isLatin_53 hl (by decide) rfl (fun ls hl => ?_)
      refine z_iinc cx (fun x10 => [(5, .int (ii x10)), (4, .int (ii x9)), (3, .int (ii x7)), (0, .ref (B + u0)), (1, .int (ii u1)), (2, .int (ii u2))]) dX0_isLatin_55 hl (k := 5) rfl (by decide) (fun _ => rfl) hf (fun x10 rx10 hf ls hl => ?_)
      refine lv_goto (tgt := 18) cx.1 cx.2.1 dX0_isLatin_58 (by decide) ?_
      exact ih x7 x9 x10 h _ _ ls rx7 rx9 rx10 hp (lv_sub hl [3, 4, 5, 2, 1, 0] rfl) hf
    · exact hk61 u2 v3 v4 h _ _ ls ru2 rv3 rv4 hp (lv_sub hl [0, 1, 2, 3, 4] rfl) hf
def LX0_isLatin_2 (F : Nat) (u0 : Nat) (u1 : Int) (k86 : HF → RO) (k78 : HF → RO) : Nat → Int → HF → RO
  | 0, _, _ => none
  | n + 1, v2, h =>
    zgf h u0 0 fun x1 =>
    if v2 < x1 then (
      zjn (fun (x61_2 : Int) (x61_3 : Int) (x61_4 : Int) (h : HF) => (
        zbd (fX0_allBits F u0 h) fun r2 h =>
        if x61_3 = r2 then (
          zbd (fX0_allBits F u0 h) fun r3 h =>
          if x61_4 = r3 then (
            zlet (wr (x61_2 + 1)) fun x4 =>
            LX0_isLatin_2 F u0 u1 k86 k78 n x4 h
          ) else (
            k78  h
          )
        ) else (
          k78  h
        )
      )) fun j61 =>
      LX0_isLatin_18 F u0 u1 v2 j61 F 0 0 0 h
    ) else (
      k86  h
    )
set_option maxHeartbeats 4000000 in
set_option maxRecDepth 100000 in
theorem wX0_isLatin_2 {p : Program} {l : Launch} {e : Env} {s : State} {m : MethodId} {args : Array Value} {below : List Frame} {meth : Method} {c : Code} {Q : State → Prop} {g : zG} {B : Nat} {o : Int × HF} (F : Nat) (cx : Cx p s m args meth c cX0_isLatin 6 RX0 (some .boolean) g B) (u0 : Nat) (ru0 : kt u0 = 3) (u1 : Int) (ru1 : rng u1) (k86 : HF → RO) (hk86 : ∀  (h : HF) (H : Heap) (locs : List Loc) (ls : Array Slot), Hp g B s h H locs → lv_has ls 6 [] → k86  h = some o → W p l e (rmn 2) s m args below meth c H locs 0 0 Q (F0 m 86 ls [])) (k78 : HF → RO) (hk78 : ∀  (h : HF) (H : Heap) (locs : List Loc) (ls : Array Slot), Hp g B s h H locs → lv_has ls 6 [] → k78  h = some o → W p l e (rmn 2) s m args below meth c H locs 0 0 Q (F0 m 78 ls [])) : ∀ (n : Nat) (v2 : Int) (h : HF) (H : Heap) (locs : List Loc) (ls : Array Slot), rng v2 → Hp g B s h H locs → lv_has ls 6 [(0, .ref (B + u0)), (1, .int (ii u1)), (2, .int (ii v2))] → LX0_isLatin_2 F u0 u1 k86 k78 n v2 h = some o → W p l e (rmn 2) s m args below meth c H locs 0 0 Q (F0 m 2 ls []) := by
  intro n
  induction n with
  | zero =>
    intro v2 h H locs ls rv2 hp hl hf
    cases hf
  | succ n ih =>
    intro v2 h H locs ls rv2 hp hl hf
    rw [LX0_isLatin_2] at hf
    refine lv_iload_n cx.1 cx.2.1 dX0_isLatin_2 rfl (lv_at hl 2 rfl) ?_
    refine lv_aload_n cx.1 cx.2.1 dX0_isLatin_3 rfl (lv_at hl 0 rfl) ?_
    refine z_geti cx hp (T := TX0) 0 0 rfl zin_0 (by decide) (by decide) ru0 rfl fl_X0_21 dX0_isLatin_4 hf (fun x1 rx1 hf => ?_)
    refine z_icmp_ge cx rv2 rx1 (tgt := 86) dX0_isLatin_7 (by decide) hf (fun _ hf => ?_) (fun _ hf => ?_)
    · refine z_iconst cx dX0_isLatin_10 ?_
      refine lv_istore_n (lv' := [(3, .int (ii 0)), (0, .ref (B + u0)), (1, .int (ii u1)), (2, .int (ii v2))]) cx.1 cx.2.1 dX0_isLatin_11 rfl hl (by decide) rfl (fun ls hl => ?_)
      refine z_iconst cx dX0_isLatin_12 ?_
      refine lv_istore (lv' := [(4, .int (ii 0)), (3, .int (ii 0)), (0, .ref (B + u0)), (1, .int (ii u1)), (2, .int (ii v2))]) cx.1 cx.2.1 dX0_isLatin_13 hl (by decide) rfl (fun ls hl => ?_)
      refine z_iconst cx dX0_isLatin_15 ?_
      refine lv_istore (lv' := [(5, .int (ii 0)), (4, .int (ii 0)), (3, .int (ii 0)), (0, .ref (B + u0)), (1, .int (ii u1)), (2, .int (ii v2))]) cx.1 cx.2.1 dX0_isLatin_16 hl (by decide) rfl (fun ls hl => ?_)
      refine z_jn hf (fun j => ∀ (x61_2 : Int) (x61_3 : Int) (x61_4 : Int) (h : HF) (H : Heap) (locs : List Loc) (ls : Array Slot), rng x61_2 → rng x61_3 → rng x61_4 → Hp g B s h H locs → lv_has ls 6 [(0, .ref (B + u0)), (1, .int (ii u1)), (2, .int (ii x61_2)), (3, .int (ii x61_3)), (4, .int (ii x61_4))] → j x61_2 x61_3 x61_4 h = some o → W p l e (rmn 2) s m args below meth c H locs 0 0 Q (F0 m 61 ls [])) ?_ (fun j61 hj61 hf => ?_)
      · intro x61_2 x61_3 x61_4 h H locs ls rx61_2 rx61_3 rx61_4 hp hl hf
        refine lv_iload_n cx.1 cx.2.1 dX0_isLatin_61 rfl (lv_at hl 3 rfl) ?_
        refine lv_aload_n cx.1 cx.2.1 dX0_isLatin_62 rfl (lv_at hl 0 rfl) ?_
        refine z_ci cx hp (fun o' hx => zrunV (n := 2) (As := []) (rest := [.int (ii x61_3)]) cx hp (mX0_allBits F l g B h u0 ru0 o' hx) 0 ru0 (by decide) rfl vw_X0_allBits ml_X0_84 (by decide) rfl hl.1 rfl (Nat.le_of_ble_eq_true rfl) dX0_isLatin_63) hf (fun r2 h H locs rr2 hp hf => ?_)
        refine z_icmp_ne cx rx61_3 rr2 (tgt := 78) dX0_isLatin_66 (by decide) hf (fun _ hf => ?_) (fun _ hf => ?_)
        · refine lv_iload cx.1 cx.2.1 dX0_isLatin_69 (lv_at hl 4 rfl) ?_
          refine lv_aload_n cx.1 cx.2.1 dX0_isLatin_71 rfl (lv_at hl 0 rfl) ?_
          refine z_ci cx hp (fun o' hx => zrunV (n := 2) (As := []) (rest := [.int (ii x61_4)]) cx hp (mX0_allBits F l g B h u0 ru0 o' hx) 0 ru0 (by decide) rfl vw_X0_allBits ml_X0_84 (by decide) rfl hl.1 rfl (Nat.le_of_ble_eq_true rfl) dX0_isLatin_72) hf (fun r3 h H locs rr3 hp hf => ?_)
          refine z_icmp_eq cx rx61_4 rr3 (tgt := 80) dX0_isLatin_75 (by decide) hf (fun _ hf => ?_) (fun _ hf => ?_)
          · refine z_iinc cx (fun x4 => [(2, .int (ii x4)), (0, .ref (B + u0)), (1, .int (ii u1)), (3, .int (ii x61_3)), (4, .int (ii x61_4))]) dX0_isLatin_80 hl (k := 2) rfl (by decide) (fun _ => rfl) hf (fun x4 rx4 hf ls hl => ?_)
            refine lv_goto (tgt := 2) cx.1 cx.2.1 dX0_isLatin_83 (by decide) ?_
            exact ih x4 h _ _ ls rx4 hp (lv_sub hl [1, 2, 0] rfl) hf
          · exact hk78  h _ _ ls  hp (lv_sub hl [] rfl) hf
        · exact hk78  h _ _ ls  hp (lv_sub hl [] rfl) hf
      exact wX0_isLatin_18 F cx u0 ru0 u1 ru1 v2 rv2 j61 hj61 F 0 0 0 h _ _ ls (by decide) (by decide) (by decide) hp (lv_sub hl [3, 4, 5, 2, 1, 0] rfl) hf
    · exact hk86  h _ _ ls  hp (lv_sub hl [] rfl) hf
def fX0_isLatin (F : Nat) (a0 : Nat) (a1 : Int) (h : HF) : RO :=
  zjn (fun  (h : HF) => (
    zrz 1 h
  )) fun j86 =>
  zjn (fun  (h : HF) => (
    zrz 0 h
  )) fun j78 =>
  LX0_isLatin_2 F a0 a1 j86 j78 F 0 h
set_option maxHeartbeats 4000000 in
set_option maxRecDepth 100000 in
theorem mX0_isLatin (F : Nat) (l : Launch) (g : zG) (B : Nat) (h : HF) (a0 : Nat) (a1 : Int) (ra0 : kt a0 = 3) (ra1 : rng a1) : CTi l g B yX0_isLatin cX0_isLatin 6 (some .boolean) 2 [.ref (B + a0), .int (ii a1)] h (fX0_isLatin F a0 a1 h) := by
  refine z_enterI (by decide) rfl (Nat.le_of_ble_eq_true rfl) ?_
  intro p e s m args below meth c ls o Q cx hp hl hf hQ
  have hl : lv_has ls 6 [(0, .ref (B + a0)), (1, .int (ii a1))] := hl
  unfold fX0_isLatin at hf
  refine z_iconst cx dX0_isLatin_0 ?_
  refine lv_istore_n (lv' := [(2, .int (ii 0)), (0, .ref (B + a0)), (1, .int (ii a1))]) cx.1 cx.2.1 dX0_isLatin_1 rfl hl (by decide) rfl (fun ls hl => ?_)
  refine z_jn hf (fun j => ∀  (h : HF) (H : Heap) (locs : List Loc) (ls : Array Slot), Hp g B s h H locs → lv_has ls 6 [] → j  h = some o → W p l e (rmn 2) s m args below meth c H locs 0 0 Q (F0 m 86 ls [])) ?_ (fun j86 hj86 hf => ?_)
  · intro  h H locs ls  hp hl hf
    refine z_iconst cx dX0_isLatin_86 ?_
    rw [hQ]; exact z_zret cx hp dX0_isLatin_87 hf
  refine z_jn hf (fun j => ∀  (h : HF) (H : Heap) (locs : List Loc) (ls : Array Slot), Hp g B s h H locs → lv_has ls 6 [] → j  h = some o → W p l e (rmn 2) s m args below meth c H locs 0 0 Q (F0 m 78 ls [])) ?_ (fun j78 hj78 hf => ?_)
  · intro  h H locs ls  hp hl hf
    refine z_iconst cx dX0_isLatin_78 ?_
    rw [hQ]; exact z_zret cx hp dX0_isLatin_79 hf
  exact wX0_isLatin_2 F cx a0 ra0 a1 ra1 j86 hj86 j78 hj78 F 0 h _ _ ls (by decide) hp (lv_sub hl [1, 2, 0] rfl) hf
theorem dX0_powerPath_0 : decode cX0_powerPath 0 = .ok (.iconst 0, 1) := by decide +kernel
theorem dX0_powerPath_1 : decode cX0_powerPath 1 = .ok (.istore_n 3, 1) := by decide +kernel
theorem dX0_powerPath_2 : decode cX0_powerPath 2 = .ok (.iload_n 2, 1) := by decide +kernel
theorem dX0_powerPath_3 : decode cX0_powerPath 3 = .ok (.istore 4, 2) := by decide +kernel
theorem dX0_powerPath_5 : decode cX0_powerPath 5 = .ok (.iconst 0, 1) := by decide +kernel
theorem dX0_powerPath_6 : decode cX0_powerPath 6 = .ok (.istore 5, 2) := by decide +kernel
theorem dX0_powerPath_8 : decode cX0_powerPath 8 = .ok (.iconst 0, 1) := by decide +kernel
theorem dX0_powerPath_9 : decode cX0_powerPath 9 = .ok (.istore 6, 2) := by decide +kernel
theorem dX0_powerPath_11 : decode cX0_powerPath 11 = .ok (.iload 6, 2) := by decide +kernel
theorem dX0_powerPath_13 : decode cX0_powerPath 13 = .ok (.aload_n 0, 1) := by decide +kernel
theorem dX0_powerPath_14 : decode cX0_powerPath 14 = .ok (.getfield 21, 3) := by decide +kernel
theorem dX0_powerPath_17 : decode cX0_powerPath 17 = .ok (.if_icmp .ge 38, 3) := by decide +kernel
theorem dX0_powerPath_20 : decode cX0_powerPath 20 = .ok (.iload_n 3, 1) := by decide +kernel
theorem dX0_powerPath_21 : decode cX0_powerPath 21 = .ok (.iload 4, 2) := by decide +kernel
theorem dX0_powerPath_23 : decode cX0_powerPath 23 = .ok (.invokestatic 102, 3) := by decide +kernel
theorem dX0_powerPath_26 : decode cX0_powerPath 26 = .ok (.ifCond .ne 29, 3) := by decide +kernel
theorem dX0_powerPath_29 : decode cX0_powerPath 29 = .ok (.iload_n 3, 1) := by decide +kernel
theorem dX0_powerPath_30 : decode cX0_powerPath 30 = .ok (.iconst 1, 1) := by decide +kernel
theorem dX0_powerPath_31 : decode cX0_powerPath 31 = .ok (.iload 4, 2) := by decide +kernel
theorem dX0_powerPath_33 : decode cX0_powerPath 33 = .ok (.ishl, 1) := by decide +kernel
theorem dX0_powerPath_34 : decode cX0_powerPath 34 = .ok (.ior, 1) := by decide +kernel
theorem dX0_powerPath_35 : decode cX0_powerPath 35 = .ok (.istore_n 3, 1) := by decide +kernel
theorem dX0_powerPath_36 : decode cX0_powerPath 36 = .ok (.aload_n 0, 1) := by decide +kernel
theorem dX0_powerPath_37 : decode cX0_powerPath 37 = .ok (.iload_n 1, 1) := by decide +kernel
theorem dX0_powerPath_38 : decode cX0_powerPath 38 = .ok (.iload 4, 2) := by decide +kernel
theorem dX0_powerPath_40 : decode cX0_powerPath 40 = .ok (.iload_n 2, 1) := by decide +kernel
theorem dX0_powerPath_41 : decode cX0_powerPath 41 = .ok (.invokevirtual 99, 3) := by decide +kernel
theorem dX0_powerPath_44 : decode cX0_powerPath 44 = .ok (.istore 4, 2) := by decide +kernel
theorem dX0_powerPath_46 : decode cX0_powerPath 46 = .ok (.iinc 5 1, 3) := by decide +kernel
theorem dX0_powerPath_49 : decode cX0_powerPath 49 = .ok (.iinc 6 1, 3) := by decide +kernel
theorem dX0_powerPath_52 : decode cX0_powerPath 52 = .ok (.goto (-41), 3) := by decide +kernel
theorem dX0_powerPath_55 : decode cX0_powerPath 55 = .ok (.iconst 0, 1) := by decide +kernel
theorem dX0_powerPath_56 : decode cX0_powerPath 56 = .ok (.istore 6, 2) := by decide +kernel
theorem dX0_powerPath_58 : decode cX0_powerPath 58 = .ok (.iload_n 2, 1) := by decide +kernel
theorem dX0_powerPath_59 : decode cX0_powerPath 59 = .ok (.istore 7, 2) := by decide +kernel
theorem dX0_powerPath_61 : decode cX0_powerPath 61 = .ok (.iconst 0, 1) := by decide +kernel
theorem dX0_powerPath_62 : decode cX0_powerPath 62 = .ok (.istore 8, 2) := by decide +kernel
theorem dX0_powerPath_64 : decode cX0_powerPath 64 = .ok (.iload 8, 2) := by decide +kernel
theorem dX0_powerPath_66 : decode cX0_powerPath 66 = .ok (.iload 5, 2) := by decide +kernel
theorem dX0_powerPath_68 : decode cX0_powerPath 68 = .ok (.if_icmp .ge 29, 3) := by decide +kernel
theorem dX0_powerPath_71 : decode cX0_powerPath 71 = .ok (.iload 7, 2) := by decide +kernel
theorem dX0_powerPath_73 : decode cX0_powerPath 73 = .ok (.iload 4, 2) := by decide +kernel
theorem dX0_powerPath_75 : decode cX0_powerPath 75 = .ok (.if_icmp .eq 22, 3) := by decide +kernel
theorem dX0_powerPath_78 : decode cX0_powerPath 78 = .ok (.aload_n 0, 1) := by decide +kernel
theorem dX0_powerPath_79 : decode cX0_powerPath 79 = .ok (.iload_n 1, 1) := by decide +kernel
theorem dX0_powerPath_80 : decode cX0_powerPath 80 = .ok (.iload 7, 2) := by decide +kernel
theorem dX0_powerPath_82 : decode cX0_powerPath 82 = .ok (.iload_n 2, 1) := by decide +kernel
theorem dX0_powerPath_83 : decode cX0_powerPath 83 = .ok (.invokevirtual 99, 3) := by decide +kernel
theorem dX0_powerPath_86 : decode cX0_powerPath 86 = .ok (.istore 7, 2) := by decide +kernel
theorem dX0_powerPath_88 : decode cX0_powerPath 88 = .ok (.iinc 6 1, 3) := by decide +kernel
theorem dX0_powerPath_91 : decode cX0_powerPath 91 = .ok (.iinc 8 1, 3) := by decide +kernel
theorem dX0_powerPath_94 : decode cX0_powerPath 94 = .ok (.goto (-30), 3) := by decide +kernel
theorem dX0_powerPath_97 : decode cX0_powerPath 97 = .ok (.bipush 10, 2) := by decide +kernel
theorem dX0_powerPath_99 : decode cX0_powerPath 99 = .ok (.iload 6, 2) := by decide +kernel
theorem dX0_powerPath_101 : decode cX0_powerPath 101 = .ok (.imul, 1) := by decide +kernel
theorem dX0_powerPath_102 : decode cX0_powerPath 102 = .ok (.iload 5, 2) := by decide +kernel
theorem dX0_powerPath_104 : decode cX0_powerPath 104 = .ok (.iadd, 1) := by decide +kernel
theorem dX0_powerPath_105 : decode cX0_powerPath 105 = .ok (.iload 6, 2) := by decide +kernel
theorem dX0_powerPath_107 : decode cX0_powerPath 107 = .ok (.isub, 1) := by decide +kernel
theorem dX0_powerPath_108 : decode cX0_powerPath 108 = .ok (.ireturn, 1) := by decide +kernel
def LX0_powerPath_64 (F : Nat) (u0 : Nat) (u1 : Int) (u2 : Int) (u4 : Int) (u5 : Int) (k97 : Int → Int → HF → RO) : Nat → Int → Int → Int → HF → RO
  | 0, _, _, _, _ => none
  | n + 1, v6, v7, v8, h =>
    if v8 < u5 then (
      if v7 = u4 then (
        k97 u5 v6 h
      ) else (
        zbd (fX0_value F u0 u1 v7 u2 h) fun r1 h =>
        zlet (wr (v6 + 1)) fun x2 =>
        zlet (wr (v8 + 1)) fun x3 =>
        LX0_powerPath_64 F u0 u1 u2 u4 u5 k97 n x2 r1 x3 h
      )
    ) else (
      k97 u5 v6 h
    )
set_option maxHeartbeats 4000000 in
set_option maxRecDepth 100000 in
theorem wX0_powerPath_64 {p : Program} {l : Launch} {e : Env} {s : State} {m : MethodId} {args : Array Value} {below : List Frame} {meth : Method} {c : Code} {Q : State → Prop} {g : zG} {B : Nat} {o : Int × HF} (F : Nat) (cx : Cx p s m args meth c cX0_powerPath 9 RX0 (some .int) g B) (u0 : Nat) (ru0 : kt u0 = 3) (u1 : Int) (ru1 : rng u1) (u2 : Int) (ru2 : rng u2) (u4 : Int) (ru4 : rng u4) (u5 : Int) (ru5 : rng u5) (k97 : Int → Int → HF → RO) (hk97 : ∀ (x5 : Int) (x6 : Int) (h : HF) (H : Heap) (locs : List Loc) (ls : Array Slot), rng x5 → rng x6 → Hp g B s h H locs → lv_has ls 9 [(5, .int (ii x5)), (6, .int (ii x6))] → k97 x5 x6 h = some o → W p l e (rmn 2) s m args below meth c H locs 0 0 Q (F0 m 97 ls [])) : ∀ (n : Nat) (v6 : Int) (v7 : Int) (v8 : Int) (h : HF) (H : Heap) (locs : List Loc) (ls : Array Slot), rng v6 → rng v7 → rng v8 → Hp g B s h H locs → lv_has ls 9 [(0, .ref (B + u0)), (1, .int (ii u1)), (2, .int (ii u2)), (4, .int (ii u4)), (5, .int (ii u5)), (6, .int (ii v6)), (7, .int (ii v7)), (8, .int (ii v8))] → LX0_powerPath_64 F u0 u1 u2 u4 u5 k97 n v6 v7 v8 h = some o → W p l e (rmn 2) s m args below meth c H locs 0 0 Q (F0 m 64 ls []) := by
  intro n
  induction n with
  | zero =>
    intro v6 v7 v8 h H locs ls rv6 rv7 rv8 hp hl hf
    cases hf
  | succ n ih =>
    intro v6 v7 v8 h H locs ls rv6 rv7 rv8 hp hl hf
    rw [LX0_powerPath_64] at hf
    refine lv_iload cx.1 cx.2.1 dX0_powerPath_64 (lv_at hl 7 rfl) ?_
    refine lv_iload cx.1 cx.2.1 dX0_powerPath_66 (lv_at hl 4 rfl) ?_
    refine z_icmp_ge cx rv8 ru5 (tgt := 97) dX0_powerPath_68 (by decide) hf (fun _ hf => ?_) (fun _ hf => ?_)
    · refine lv_iload cx.1 cx.2.1 dX0_powerPath_71 (lv_at hl 6 rfl) ?_
      refine lv_iload cx.1 cx.2.1 dX0_powerPath_73 (lv_at hl 3 rfl) ?_
      refine z_icmp_eq cx rv7 ru4 (tgt := 97) dX0_powerPath_75 (by decide) hf (fun _ hf => ?_) (fun _ hf => ?_)
      · exact hk97 u5 v6 h _ _ ls ru5 rv6 hp (lv_sub hl [4, 5] rfl) hf
      · refine lv_aload_n cx.1 cx.2.1 dX0_powerPath_78 rfl (lv_at hl 0 rfl) ?_
        refine lv_iload_n cx.1 cx.2.1 dX0_powerPath_79 rfl (lv_at hl 1 rfl) ?_
        refine lv_iload cx.1 cx.2.1 dX0_powerPath_80 (lv_at hl 6 rfl) ?_
        refine lv_iload_n cx.1 cx.2.1 dX0_powerPath_82 rfl (lv_at hl 2 rfl) ?_
        refine z_ci cx hp (fun o' hx => zrunV (n := 2) (As := [.int (ii u1), .int (ii v7), .int (ii u2)]) (rest := []) cx hp (mX0_value F l g B h u0 u1 v7 u2 ru0 ru1 rv7 ru2 o' hx) 0 ru0 (by decide) rfl vw_X0_value ml_X0_99 (by decide) rfl hl.1 rfl (Nat.le_of_ble_eq_true rfl) dX0_powerPath_83) hf (fun r1 h H locs rr1 hp hf => ?_)
        refine lv_istore (lv' := [(7, .int (ii r1)), (0, .ref (B + u0)), (1, .int (ii u1)), (2, .int (ii u2)), (4, .int (ii u4)), (5, .int (ii u5)), (6, .int (ii v6)), (8, .int (ii v8))]) cx.1 cx.2.1 dX0_powerPath_86 hl (by decide) rfl (fun ls hl => ?_)
        refine z_iinc cx (fun x2 => [(6, .int (ii x2)), (7, .int (ii r1)), (0, .ref (B + u0)), (1, .int (ii u1)), (2, .int (ii u2)), (4, .int (ii u4)), (5, .int (ii u5)), (8, .int (ii v8))]) dX0_powerPath_88 hl (k := 6) rfl (by decide) (fun _ => rfl) hf (fun x2 rx2 hf ls hl => ?_)
        refine z_iinc cx (fun x3 => [(8, .int (ii x3)), (6, .int (ii x2)), (7, .int (ii r1)), (0, .ref (B + u0)), (1, .int (ii u1)), (2, .int (ii u2)), (4, .int (ii u4)), (5, .int (ii u5))]) dX0_powerPath_91 hl (k := 7) rfl (by decide) (fun _ => rfl) hf (fun x3 rx3 hf ls hl => ?_)
        refine lv_goto (tgt := 64) cx.1 cx.2.1 dX0_powerPath_94 (by decide) ?_
        exact ih x2 r1 x3 h _ _ ls rx2 rr1 rx3 hp (lv_sub hl [3, 4, 5, 6, 7, 1, 2, 0] rfl) hf
    · exact hk97 u5 v6 h _ _ ls ru5 rv6 hp (lv_sub hl [4, 5] rfl) hf
def LX0_powerPath_11 (F : Nat) (u0 : Nat) (u1 : Int) (u2 : Int) (k55 : Int → Int → HF → RO) : Nat → Int → Int → Int → Int → HF → RO
  | 0, _, _, _, _, _ => none
  | n + 1, v3, v4, v5, v6, h =>
    zgf h u0 0 fun x4 =>
    if v6 < x4 then (
      zbd (fX11_hasBit F v3 v4 h) fun r5 h =>
      if r5 = 0 then (
        zlet (wor v3 (wshl 1 v4)) fun x6 =>
        zbd (fX0_value F u0 u1 v4 u2 h) fun r7 h =>
        zlet (wr (v5 + 1)) fun x8 =>
        zlet (wr (v6 + 1)) fun x9 =>
        LX0_powerPath_11 F u0 u1 u2 k55 n x6 r7 x8 x9 h
      ) else (
        k55 v4 v5 h
      )
    ) else (
      k55 v4 v5 h
    )
set_option maxHeartbeats 4000000 in
set_option maxRecDepth 100000 in
theorem wX0_powerPath_11 {p : Program} {l : Launch} {e : Env} {s : State} {m : MethodId} {args : Array Value} {below : List Frame} {meth : Method} {c : Code} {Q : State → Prop} {g : zG} {B : Nat} {o : Int × HF} (F : Nat) (cx : Cx p s m args meth c cX0_powerPath 9 RX0 (some .int) g B) (u0 : Nat) (ru0 : kt u0 = 3) (u1 : Int) (ru1 : rng u1) (u2 : Int) (ru2 : rng u2) (k55 : Int → Int → HF → RO) (hk55 : ∀ (x4 : Int) (x5 : Int) (h : HF) (H : Heap) (locs : List Loc) (ls : Array Slot), rng x4 → rng x5 → Hp g B s h H locs → lv_has ls 9 [(0, .ref (B + u0)), (1, .int (ii u1)), (2, .int (ii u2)), (4, .int (ii x4)), (5, .int (ii x5))] → k55 x4 x5 h = some o → W p l e (rmn 2) s m args below meth c H locs 0 0 Q (F0 m 55 ls [])) : ∀ (n : Nat) (v3 : Int) (v4 : Int) (v5 : Int) (v6 : Int) (h : HF) (H : Heap) (locs : List Loc) (ls : Array Slot), rng v3 → rng v4 → rng v5 → rng v6 → Hp g B s h H locs → lv_has ls 9 [(0, .ref (B + u0)), (1, .int (ii u1)), (2, .int (ii u2)), (3, .int (ii v3)), (4, .int (ii v4)), (5, .int (ii v5)), (6, .int (ii v6))] → LX0_powerPath_11 F u0 u1 u2 k55 n v3 v4 v5 v6 h = some o → W p l e (rmn 2) s m args below meth c H locs 0 0 Q (F0 m 11 ls []) := by
  intro n
  induction n with
  | zero =>
    intro v3 v4 v5 v6 h H locs ls rv3 rv4 rv5 rv6 hp hl hf
    cases hf
  | succ n ih =>
    intro v3 v4 v5 v6 h H locs ls rv3 rv4 rv5 rv6 hp hl hf
    rw [LX0_powerPath_11] at hf
    refine lv_iload cx.1 cx.2.1 dX0_powerPath_11 (lv_at hl 6 rfl) ?_
    refine lv_aload_n cx.1 cx.2.1 dX0_powerPath_13 rfl (lv_at hl 0 rfl) ?_
    refine z_geti cx hp (T := TX0) 0 0 rfl zin_0 (by decide) (by decide) ru0 rfl fl_X0_21 dX0_powerPath_14 hf (fun x4 rx4 hf => ?_)
    refine z_icmp_ge cx rv6 rx4 (tgt := 55) dX0_powerPath_17 (by decide) hf (fun _ hf => ?_) (fun _ hf => ?_)
    · refine lv_iload_n cx.1 cx.2.1 dX0_powerPath_20 rfl (lv_at hl 3 rfl) ?_
      refine lv_iload cx.1 cx.2.1 dX0_powerPath_21 (lv_at hl 4 rfl) ?_
      refine z_ci cx hp (fun o' hx => zrunSN (n := 2) (As := [.int (ii v3), .int (ii v4)]) (rest := []) cx hp (mX11_hasBit F l g B h v3 v4 rv3 rv4 o' hx) sw_X11_hasBit mn_X0_102 (by decide) rfl hl.1 rfl (Nat.le_of_ble_eq_true rfl) dX0_powerPath_23) hf (fun r5 h H locs rr5 hp hf => ?_)
      refine z_if_ne cx rr5 (tgt := 55) dX0_powerPath_26 (by decide) hf (fun _ hf => ?_) (fun _ hf => ?_)
      · refine lv_iload_n cx.1 cx.2.1 dX0_powerPath_29 rfl (lv_at hl 3 rfl) ?_
        refine z_iconst cx dX0_powerPath_30 ?_
        refine lv_iload cx.1 cx.2.1 dX0_powerPath_31 (lv_at hl 4 rfl) ?_
        refine z_ishl cx dX0_powerPath_33 ?_
        refine z_ior cx dX0_powerPath_34 ?_
        refine z_let (rng_or _ _) hf (fun x6 rx6 hf => ?_)
        refine lv_istore_n (lv' := [(3, .int (ii x6)), (0, .ref (B + u0)), (1, .int (ii u1)), (2, .int (ii u2)), (4, .int (ii v4)), (5, .int (ii v5)), (6, .int (ii v6))]) cx.1 cx.2.1 dX0_powerPath_35 rfl hl (by decide) rfl (fun ls hl => ?_)
        refine lv_aload_n cx.1 cx.2.1 dX0_powerPath_36 rfl (lv_at hl 1 rfl) ?_
        refine lv_iload_n cx.1 cx.2.1 dX0_powerPath_37 rfl (lv_at hl 2 rfl) ?_
        refine lv_iload cx.1 cx.2.1 dX0_powerPath_38 (lv_at hl 4 rfl) ?_
        refine lv_iload_n cx.1 cx.2.1 dX0_powerPath_40 rfl (lv_at hl 3 rfl) ?_
        refine z_ci cx hp (fun o' hx => zrunV (n := 2) (As := [.int (ii u1), .int (ii v4), .int (ii u2)]) (rest := []) cx hp (mX0_value F l g B h u0 u1 v4 u2 ru0 ru1 rv4 ru2 o' hx) 0 ru0 (by decide) rfl vw_X0_value ml_X0_99 (by decide) rfl hl.1 rfl (Nat.le_of_ble_eq_true rfl) dX0_powerPath_41) hf (fun r7 h H locs rr7 hp hf => ?_)
        refine lv_istore (lv' := [(4, .int (ii r7)), (3, .int (ii x6)), (0, .ref (B + u0)), (1, .int (ii u1)), (2, .int (ii u2)), (5, .int (ii v5)), (6, .int (ii v6))]) cx.1 cx.2.1 dX0_powerPath_44 hl (by decide) rfl (fun ls hl => ?_)
        refine z_iinc cx (fun x8 => [(5, .int (ii x8)), (4, .int (ii r7)), (3, .int (ii x6)), (0, .ref (B + u0)), (1, .int (ii u1)), (2, .int (ii u2)), (6, .int (ii v6))]) dX0_powerPath_46 hl (k := 5) rfl (by decide) (fun _ => rfl) hf (fun x8 rx8 hf ls hl => ?_)
        refine z_iinc cx (fun x9 => [(6, .int (ii x9)), (5, .int (ii x8)), (4, .int (ii r7)), (3, .int (ii x6)), (0, .ref (B + u0)), (1, .int (ii u1)), (2, .int (ii u2))]) dX0_powerPath_49 hl (k := 6) rfl (by decide) (fun _ => rfl) hf (fun x9 rx9 hf ls hl => ?_)
        refine lv_goto (tgt := 11) cx.1 cx.2.1 dX0_powerPath_52 (by decide) ?_
        exact ih x6 r7 x8 x9 h _ _ ls rx6 rr7 rx8 rx9 hp (lv_sub hl [4, 5, 6, 3, 2, 1, 0] rfl) hf
      · exact hk55 v4 v5 h _ _ ls rv4 rv5 hp (lv_sub hl [0, 1, 2, 4, 5] rfl) hf
    · exact hk55 v4 v5 h _ _ ls rv4 rv5 hp (lv_sub hl [0, 1, 2, 4, 5] rfl) hf
def fX0_powerPath (F : Nat) (a0 : Nat) (a1 : Int) (a2 : Int) (h : HF) : RO :=
  zjn (fun (x55_4 : Int) (x55_5 : Int) (h : HF) => (
    zjn (fun (x97_5 : Int) (x97_6 : Int) (h : HF) => (
      some (wr ((wr ((wr (10 * x97_6)) + x97_5)) - x97_6), h)
    )) fun j97 =>
    LX0_powerPath_64 F a0 a1 a2 x55_4 x55_5 j97 F 0 a2 0 h
  )) fun j55 =>
  LX0_powerPath_11 F a0 a1 a2 j55 F 0 a2 0 0 h
set_option maxHeartbeats 4000000 in
set_option maxRecDepth 100000 in
theorem mX0_powerPath (F : Nat) (l : Launch) (g : zG) (B : Nat) (h : HF) (a0 : Nat) (a1 : Int) (a2 : Int) (ra0 : kt a0 = 3) (ra1 : rng a1) (ra2 : rng a2) : CTi l g B yX0_powerPath cX0_powerPath 9 (some .int) 2 [.ref (B + a0), .int (ii a1), .int (ii a2)] h (fX0_powerPath F a0 a1 a2 h) := by
  refine z_enterI (by decide) rfl (Nat.le_of_ble_eq_true rfl) ?_
  intro p e s m args below meth c ls o Q cx hp hl hf hQ
  have hl : lv_has ls 9 [(0, .ref (B + a0)), (1, .int (ii a1)), (2, .int (ii a2))] := hl
  unfold fX0_powerPath at hf
  refine z_iconst cx dX0_powerPath_0 ?_
  refine lv_istore_n (lv' := [(3, .int (ii 0)), (0, .ref (B + a0)), (1, .int (ii a1)), (2, .int (ii a2))]) cx.1 cx.2.1 dX0_powerPath_1 rfl hl (by decide) rfl (fun ls hl => ?_)
  refine lv_iload_n cx.1 cx.2.1 dX0_powerPath_2 rfl (lv_at hl 3 rfl) ?_
  refine lv_istore (lv' := [(4, .int (ii a2)), (3, .int (ii 0)), (0, .ref (B + a0)), (1, .int (ii a1)), (2, .int (ii a2))]) cx.1 cx.2.1 dX0_powerPath_3 hl (by decide) rfl (fun ls hl => ?_)
  refine z_iconst cx dX0_powerPath_5 ?_
  refine lv_istore (lv' := [(5, .int (ii 0)), (4, .int (ii a2)), (3, .int (ii 0)), (0, .ref (B + a0)), (1, .int (ii a1)), (2, .int (ii a2))]) cx.1 cx.2.1 dX0_powerPath_6 hl (by decide) rfl (fun ls hl => ?_)
  refine z_iconst cx dX0_powerPath_8 ?_
  refine lv_istore (lv' := [(6, .int (ii 0)), (5, .int (ii 0)), (4, .int (ii a2)), (3, .int (ii 0)), (0, .ref (B + a0)), (1, .int (ii a1)), (2, .int (ii a2))]) cx.1 cx.2.1 dX0_powerPath_9 hl (by decide) rfl (fun ls hl => ?_)
  refine z_jn hf (fun j => ∀ (x55_4 : Int) (x55_5 : Int) (h : HF) (H : Heap) (locs : List Loc) (ls : Array Slot), rng x55_4 → rng x55_5 → Hp g B s h H locs → lv_has ls 9 [(0, .ref (B + a0)), (1, .int (ii a1)), (2, .int (ii a2)), (4, .int (ii x55_4)), (5, .int (ii x55_5))] → j x55_4 x55_5 h = some o → W p l e (rmn 2) s m args below meth c H locs 0 0 Q (F0 m 55 ls [])) ?_ (fun j55 hj55 hf => ?_)
  · intro x55_4 x55_5 h H locs ls rx55_4 rx55_5 hp hl hf
    refine z_iconst cx dX0_powerPath_55 ?_
    refine lv_istore (lv' := [(6, .int (ii 0)), (0, .ref (B + a0)), (1, .int (ii a1)), (2, .int (ii a2)), (4, .int (ii x55_4)), (5, .int (ii x55_5))]) cx.1 cx.2.1 dX0_powerPath_56 hl (by decide) rfl (fun ls hl => ?_)
    refine lv_iload_n cx.1 cx.2.1 dX0_powerPath_58 rfl (lv_at hl 3 rfl) ?_
    refine lv_istore (lv' := [(7, .int (ii a2)), (6, .int (ii 0)), (0, .ref (B + a0)), (1, .int (ii a1)), (2, .int (ii a2)), (4, .int (ii x55_4)), (5, .int (ii x55_5))]) cx.1 cx.2.1 dX0_powerPath_59 hl (by decide) rfl (fun ls hl => ?_)
    refine z_iconst cx dX0_powerPath_61 ?_
    refine lv_istore (lv' := [(8, .int (ii 0)), (7, .int (ii a2)), (6, .int (ii 0)), (0, .ref (B + a0)), (1, .int (ii a1)), (2, .int (ii a2)), (4, .int (ii x55_4)), (5, .int (ii x55_5))]) cx.1 cx.2.1 dX0_powerPath_62 hl (by decide) rfl (fun ls hl => ?_)
    refine z_jn hf (fun j => ∀ (x97_5 : Int) (x97_6 : Int) (h : HF) (H : Heap) (locs : List Loc) (ls : Array Slot), rng x97_5 → rng x97_6 → Hp g B s h H locs → lv_has ls 9 [(5, .int (ii x97_5)), (6, .int (ii x97_6))] → j x97_5 x97_6 h = some o → W p l e (rmn 2) s m args below meth c H locs 0 0 Q (F0 m 97 ls [])) ?_ (fun j97 hj97 hf => ?_)
    · intro x97_5 x97_6 h H locs ls rx97_5 rx97_6 hp hl hf
      refine z_bipush cx (by decide) dX0_powerPath_97 ?_
      refine lv_iload cx.1 cx.2.1 dX0_powerPath_99 (lv_at hl 1 rfl) ?_
      refine z_imul cx dX0_powerPath_101 ?_
      refine lv_iload cx.1 cx.2.1 dX0_powerPath_102 (lv_at hl 0 rfl) ?_
      refine z_iadd cx dX0_powerPath_104 ?_
      refine lv_iload cx.1 cx.2.1 dX0_powerPath_105 (lv_at hl 1 rfl) ?_
      refine z_isub cx dX0_powerPath_107 ?_
      rw [hQ]; exact z_iret cx hp (rng_wr _) dX0_powerPath_108 hf
    exact wX0_powerPath_64 F cx a0 ra0 a1 ra1 a2 ra2 x55_4 rx55_4 x55_5 rx55_5 j97 hj97 F 0 a2 0 h _ _ ls (by decide) ra2 (by decide) hp (lv_sub hl [3, 4, 5, 6, 7, 2, 1, 0] rfl) hf
  exact wX0_powerPath_11 F cx a0 ra0 a1 ra1 a2 ra2 j55 hj55 F 0 a2 0 0 h _ _ ls (by decide) ra2 (by decide) (by decide) hp (lv_sub hl [4, 5, 6, 3, 2, 1, 0] rfl) hf
theorem dX0_rowValues_0 : decode cX0_rowValues 0 = .ok (.iconst 0, 1) := by decide +kernel
theorem dX0_rowValues_1 : decode cX0_rowValues 1 = .ok (.istore 4, 2) := by decide +kernel
theorem dX0_rowValues_3 : decode cX0_rowValues 3 = .ok (.iconst 0, 1) := by decide +kernel
theorem dX0_rowValues_4 : decode cX0_rowValues 4 = .ok (.istore 5, 2) := by decide +kernel
theorem dX0_rowValues_6 : decode cX0_rowValues 6 = .ok (.iload 5, 2) := by decide +kernel
theorem dX0_rowValues_8 : decode cX0_rowValues 8 = .ok (.aload_n 0, 1) := by decide +kernel
theorem dX0_rowValues_9 : decode cX0_rowValues 9 = .ok (.getfield 21, 3) := by decide +kernel
theorem dX0_rowValues_12 : decode cX0_rowValues 12 = .ok (.if_icmp .ge 33, 3) := by decide +kernel
theorem dX0_rowValues_15 : decode cX0_rowValues 15 = .ok (.iload_n 3, 1) := by decide +kernel
theorem dX0_rowValues_16 : decode cX0_rowValues 16 = .ok (.iload 5, 2) := by decide +kernel
theorem dX0_rowValues_18 : decode cX0_rowValues 18 = .ok (.invokestatic 102, 3) := by decide +kernel
theorem dX0_rowValues_21 : decode cX0_rowValues 21 = .ok (.ifCond .eq 18, 3) := by decide +kernel
theorem dX0_rowValues_24 : decode cX0_rowValues 24 = .ok (.iload 4, 2) := by decide +kernel
theorem dX0_rowValues_26 : decode cX0_rowValues 26 = .ok (.iconst 1, 1) := by decide +kernel
theorem dX0_rowValues_27 : decode cX0_rowValues 27 = .ok (.aload_n 0, 1) := by decide +kernel
theorem dX0_rowValues_28 : decode cX0_rowValues 28 = .ok (.iload_n 1, 1) := by decide +kernel
theorem dX0_rowValues_29 : decode cX0_rowValues 29 = .ok (.iload_n 2, 1) := by decide +kernel
theorem dX0_rowValues_30 : decode cX0_rowValues 30 = .ok (.iload 5, 2) := by decide +kernel
theorem dX0_rowValues_32 : decode cX0_rowValues 32 = .ok (.invokevirtual 99, 3) := by decide +kernel
theorem dX0_rowValues_35 : decode cX0_rowValues 35 = .ok (.ishl, 1) := by decide +kernel
theorem dX0_rowValues_36 : decode cX0_rowValues 36 = .ok (.ior, 1) := by decide +kernel
theorem dX0_rowValues_37 : decode cX0_rowValues 37 = .ok (.istore 4, 2) := by decide +kernel
theorem dX0_rowValues_39 : decode cX0_rowValues 39 = .ok (.iinc 5 1, 3) := by decide +kernel
theorem dX0_rowValues_42 : decode cX0_rowValues 42 = .ok (.goto (-36), 3) := by decide +kernel
theorem dX0_rowValues_45 : decode cX0_rowValues 45 = .ok (.iload 4, 2) := by decide +kernel
theorem dX0_rowValues_47 : decode cX0_rowValues 47 = .ok (.ireturn, 1) := by decide +kernel
def LX0_rowValues_6 (F : Nat) (u0 : Nat) (u1 : Int) (u2 : Int) (u3 : Int) (k45 : Int → HF → RO) : Nat → Int → Int → HF → RO
  | 0, _, _, _ => none
  | n + 1, v4, v5, h =>
    zgf h u0 0 fun x1 =>
    if v5 < x1 then (
      zbd (fX11_hasBit F u3 v5 h) fun r2 h =>
      zjn (fun (x39_4 : Int) (x39_5 : Int) (h : HF) => (
        zlet (wr (x39_5 + 1)) fun x3 =>
        LX0_rowValues_6 F u0 u1 u2 u3 k45 n x39_4 x3 h
      )) fun j39 =>
      if r2 = 0 then (
        j39 v4 v5 h
      ) else (
        zbd (fX0_value F u0 u1 u2 v5 h) fun r4 h =>
        zlet (wor v4 (wshl 1 r4)) fun x5 =>
        j39 x5 v5 h
      )
    ) else (
      k45 v4 h
    )
set_option maxHeartbeats 4000000 in
set_option maxRecDepth 100000 in
theorem wX0_rowValues_6 {p : Program} {l : Launch} {e : Env} {s : State} {m : MethodId} {args : Array Value} {below : List Frame} {meth : Method} {c : Code} {Q : State → Prop} {g : zG} {B : Nat} {o : Int × HF} (F : Nat) (cx : Cx p s m args meth c cX0_rowValues 6 RX0 (some .int) g B) (u0 : Nat) (ru0 : kt u0 = 3) (u1 : Int) (ru1 : rng u1) (u2 : Int) (ru2 : rng u2) (u3 : Int) (ru3 : rng u3) (k45 : Int → HF → RO) (hk45 : ∀ (x4 : Int) (h : HF) (H : Heap) (locs : List Loc) (ls : Array Slot), rng x4 → Hp g B s h H locs → lv_has ls 6 [(4, .int (ii x4))] → k45 x4 h = some o → W p l e (rmn 2) s m args below meth c H locs 0 0 Q (F0 m 45 ls [])) : ∀ (n : Nat) (v4 : Int) (v5 : Int) (h : HF) (H : Heap) (locs : List Loc) (ls : Array Slot), rng v4 → rng v5 → Hp g B s h H locs → lv_has ls 6 [(0, .ref (B + u0)), (1, .int (ii u1)), (2, .int (ii u2)), (3, .int (ii u3)), (4, .int (ii v4)), (5, .int (ii v5))] → LX0_rowValues_6 F u0 u1 u2 u3 k45 n v4 v5 h = some o → W p l e (rmn 2) s m args below meth c H locs 0 0 Q (F0 m 6 ls []) := by
  intro n
  induction n with
  | zero =>
    intro v4 v5 h H locs ls rv4 rv5 hp hl hf
    cases hf
  | succ n ih =>
    intro v4 v5 h H locs ls rv4 rv5 hp hl hf
    rw [LX0_rowValues_6] at hf
    refine lv_iload cx.1 cx.2.1 dX0_rowValues_6 (lv_at hl 5 rfl) ?_
    refine lv_aload_n cx.1 cx.2.1 dX0_rowValues_8 rfl (lv_at hl 0 rfl) ?_
    refine z_geti cx hp (T := TX0) 0 0 rfl zin_0 (by decide) (by decide) ru0 rfl fl_X0_21 dX0_rowValues_9 hf (fun x1 rx1 hf => ?_)
    refine z_icmp_ge cx rv5 rx1 (tgt := 45) dX0_rowValues_12 (by decide) hf (fun _ hf => ?_) (fun _ hf => ?_)
    · refine lv_iload_n cx.1 cx.2.1 dX0_rowValues_15 rfl (lv_at hl 3 rfl) ?_
      refine lv_iload cx.1 cx.2.1 dX0_rowValues_16 (lv_at hl 5 rfl) ?_
      refine z_ci cx hp (fun o' hx => zrunSN (n := 2) (As := [.int (ii u3), .int (ii v5)]) (rest := []) cx hp (mX11_hasBit F l g B h u3 v5 ru3 rv5 o' hx) sw_X11_hasBit mn_X0_102 (by decide) rfl hl.1 rfl (Nat.le_of_ble_eq_true rfl) dX0_rowValues_18) hf (fun r2 h H locs rr2 hp hf => ?_)
      refine z_jn hf (fun j => ∀ (x39_4 : Int) (x39_5 : Int) (h : HF) (H : Heap) (locs : List Loc) (ls : Array Slot), rng x39_4 → rng x39_5 → Hp g B s h H locs → lv_has ls 6 [(0, .ref (B + u0)), (1, .int (ii u1)), (2, .int (ii u2)), (3, .int (ii u3)), (4, .int (ii x39_4)), (5, .int (ii x39_5))] → j x39_4 x39_5 h = some o → W p l e (rmn 2) s m args below meth c H locs 0 0 Q (F0 m 39 ls [])) ?_ (fun j39 hj39 hf => ?_)
      · intro x39_4 x39_5 h H locs ls rx39_4 rx39_5 hp hl hf
        refine z_iinc cx (fun x3 => [(5, .int (ii x3)), (0, .ref (B + u0)), (1, .int (ii u1)), (2, .int (ii u2)), (3, .int (ii u3)), (4, .int (ii x39_4))]) dX0_rowValues_39 hl (k := 5) rfl (by decide) (fun _ => rfl) hf (fun x3 rx3 hf ls hl => ?_)
        refine lv_goto (tgt := 6) cx.1 cx.2.1 dX0_rowValues_42 (by decide) ?_
        exact ih x39_4 x3 h _ _ ls rx39_4 rx3 hp (lv_sub hl [1, 2, 3, 4, 5, 0] rfl) hf
      refine z_if_eq cx rr2 (tgt := 39) dX0_rowValues_21 (by decide) hf (fun _ hf => ?_) (fun _ hf => ?_)
      · exact hj39 v4 v5 h _ _ ls rv4 rv5 hp (lv_sub hl [0, 1, 2, 3, 4, 5] rfl) hf
      · refine lv_iload cx.1 cx.2.1 dX0_rowValues_24 (lv_at hl 4 rfl) ?_
        refine z_iconst cx dX0_rowValues_26 ?_
        refine lv_aload_n cx.1 cx.2.1 dX0_rowValues_27 rfl (lv_at hl 0 rfl) ?_
        refine lv_iload_n cx.1 cx.2.1 dX0_rowValues_28 rfl (lv_at hl 1 rfl) ?_
        refine lv_iload_n cx.1 cx.2.1 dX0_rowValues_29 rfl (lv_at hl 2 rfl) ?_
        refine lv_iload cx.1 cx.2.1 dX0_rowValues_30 (lv_at hl 5 rfl) ?_
        refine z_ci cx hp (fun o' hx => zrunV (n := 2) (As := [.int (ii u1), .int (ii u2), .int (ii v5)]) (rest := [.int (ii 1), .int (ii v4)]) cx hp (mX0_value F l g B h u0 u1 u2 v5 ru0 ru1 ru2 rv5 o' hx) 0 ru0 (by decide) rfl vw_X0_value ml_X0_99 (by decide) rfl hl.1 rfl (Nat.le_of_ble_eq_true rfl) dX0_rowValues_32) hf (fun r4 h H locs rr4 hp hf => ?_)
        refine z_ishl cx dX0_rowValues_35 ?_
        refine z_ior cx dX0_rowValues_36 ?_
        refine z_let (rng_or _ _) hf (fun x5 rx5 hf => ?_)
        refine lv_istore (lv' := [(4, .int (ii x5)), (0, .ref (B + u0)), (1, .int (ii u1)), (2, .int (ii u2)), (3, .int (ii u3)), (5, .int (ii v5))]) cx.1 cx.2.1 dX0_rowValues_37 hl (by decide) rfl (fun ls hl => ?_)
        exact hj39 x5 v5 h _ _ ls rx5 rv5 hp (lv_sub hl [1, 2, 3, 4, 0, 5] rfl) hf
    · exact hk45 v4 h _ _ ls rv4 hp (lv_sub hl [4] rfl) hf
def fX0_rowValues (F : Nat) (a0 : Nat) (a1 : Int) (a2 : Int) (a3 : Int) (h : HF) : RO :=
  zjn (fun (x45_4 : Int) (h : HF) => (
    some (x45_4, h)
  )) fun j45 =>
  LX0_rowValues_6 F a0 a1 a2 a3 j45 F 0 0 h
set_option maxHeartbeats 4000000 in
set_option maxRecDepth 100000 in
theorem mX0_rowValues (F : Nat) (l : Launch) (g : zG) (B : Nat) (h : HF) (a0 : Nat) (a1 : Int) (a2 : Int) (a3 : Int) (ra0 : kt a0 = 3) (ra1 : rng a1) (ra2 : rng a2) (ra3 : rng a3) : CTi l g B yX0_rowValues cX0_rowValues 6 (some .int) 2 [.ref (B + a0), .int (ii a1), .int (ii a2), .int (ii a3)] h (fX0_rowValues F a0 a1 a2 a3 h) := by
  refine z_enterI (by decide) rfl (Nat.le_of_ble_eq_true rfl) ?_
  intro p e s m args below meth c ls o Q cx hp hl hf hQ
  have hl : lv_has ls 6 [(0, .ref (B + a0)), (1, .int (ii a1)), (2, .int (ii a2)), (3, .int (ii a3))] := hl
  unfold fX0_rowValues at hf
  refine z_iconst cx dX0_rowValues_0 ?_
  refine lv_istore (lv' := [(4, .int (ii 0)), (0, .ref (B + a0)), (1, .int (ii a1)), (2, .int (ii a2)), (3, .int (ii a3))]) cx.1 cx.2.1 dX0_rowValues_1 hl (by decide) rfl (fun ls hl => ?_)
  refine z_iconst cx dX0_rowValues_3 ?_
  refine lv_istore (lv' := [(5, .int (ii 0)), (4, .int (ii 0)), (0, .ref (B + a0)), (1, .int (ii a1)), (2, .int (ii a2)), (3, .int (ii a3))]) cx.1 cx.2.1 dX0_rowValues_4 hl (by decide) rfl (fun ls hl => ?_)
  refine z_jn hf (fun j => ∀ (x45_4 : Int) (h : HF) (H : Heap) (locs : List Loc) (ls : Array Slot), rng x45_4 → Hp g B s h H locs → lv_has ls 6 [(4, .int (ii x45_4))] → j x45_4 h = some o → W p l e (rmn 2) s m args below meth c H locs 0 0 Q (F0 m 45 ls [])) ?_ (fun j45 hj45 hf => ?_)
  · intro x45_4 h H locs ls rx45_4 hp hl hf
    refine lv_iload cx.1 cx.2.1 dX0_rowValues_45 (lv_at hl 0 rfl) ?_
    rw [hQ]; exact z_iret cx hp rx45_4 dX0_rowValues_47 hf
  exact wX0_rowValues_6 F cx a0 ra0 a1 ra1 a2 ra2 a3 ra3 j45 hj45 F 0 0 h _ _ ls (by decide) (by decide) hp (lv_sub hl [2, 3, 4, 5, 1, 0] rfl) hf
theorem dX0_becomeImage_0 : decode cX0_becomeImage 0 = .ok (.aload_n 0, 1) := by decide +kernel
theorem dX0_becomeImage_1 : decode cX0_becomeImage 1 = .ok (.iload_n 2, 1) := by decide +kernel
theorem dX0_becomeImage_2 : decode cX0_becomeImage 2 = .ok (.aload_n 1, 1) := by decide +kernel
theorem dX0_becomeImage_3 : decode cX0_becomeImage 3 = .ok (.getfield 32, 3) := by decide +kernel
theorem dX0_becomeImage_6 : decode cX0_becomeImage 6 = .ok (.invokevirtual 112, 3) := by decide +kernel
theorem dX0_becomeImage_9 : decode cX0_becomeImage 9 = .ok (.iconst 0, 1) := by decide +kernel
theorem dX0_becomeImage_10 : decode cX0_becomeImage 10 = .ok (.istore 5, 2) := by decide +kernel
theorem dX0_becomeImage_12 : decode cX0_becomeImage 12 = .ok (.iload 5, 2) := by decide +kernel
theorem dX0_becomeImage_14 : decode cX0_becomeImage 14 = .ok (.aload_n 0, 1) := by decide +kernel
theorem dX0_becomeImage_15 : decode cX0_becomeImage 15 = .ok (.getfield 29, 3) := by decide +kernel
theorem dX0_becomeImage_18 : decode cX0_becomeImage 18 = .ok (.if_icmp .ge 81, 3) := by decide +kernel
theorem dX0_becomeImage_21 : decode cX0_becomeImage 21 = .ok (.iconst 0, 1) := by decide +kernel
theorem dX0_becomeImage_22 : decode cX0_becomeImage 22 = .ok (.istore 6, 2) := by decide +kernel
theorem dX0_becomeImage_24 : decode cX0_becomeImage 24 = .ok (.iload 6, 2) := by decide +kernel
theorem dX0_becomeImage_26 : decode cX0_becomeImage 26 = .ok (.aload_n 0, 1) := by decide +kernel
theorem dX0_becomeImage_27 : decode cX0_becomeImage 27 = .ok (.iload 5, 2) := by decide +kernel
theorem dX0_becomeImage_29 : decode cX0_becomeImage 29 = .ok (.invokevirtual 35, 3) := by decide +kernel
theorem dX0_becomeImage_32 : decode cX0_becomeImage 32 = .ok (.if_icmp .ge 61, 3) := by decide +kernel
theorem dX0_becomeImage_35 : decode cX0_becomeImage 35 = .ok (.iconst 0, 1) := by decide +kernel
theorem dX0_becomeImage_36 : decode cX0_becomeImage 36 = .ok (.istore 7, 2) := by decide +kernel
theorem dX0_becomeImage_38 : decode cX0_becomeImage 38 = .ok (.iload 7, 2) := by decide +kernel
theorem dX0_becomeImage_40 : decode cX0_becomeImage 40 = .ok (.aload_n 0, 1) := by decide +kernel
theorem dX0_becomeImage_41 : decode cX0_becomeImage 41 = .ok (.iload 5, 2) := by decide +kernel
theorem dX0_becomeImage_43 : decode cX0_becomeImage 43 = .ok (.invokevirtual 39, 3) := by decide +kernel
theorem dX0_becomeImage_46 : decode cX0_becomeImage 46 = .ok (.if_icmp .ge 41, 3) := by decide +kernel
theorem dX0_becomeImage_49 : decode cX0_becomeImage 49 = .ok (.aload_n 0, 1) := by decide +kernel
theorem dX0_becomeImage_50 : decode cX0_becomeImage 50 = .ok (.getfield 18, 3) := by decide +kernel
theorem dX0_becomeImage_53 : decode cX0_becomeImage 53 = .ok (.aload_n 0, 1) := by decide +kernel
theorem dX0_becomeImage_54 : decode cX0_becomeImage 54 = .ok (.iload 5, 2) := by decide +kernel
theorem dX0_becomeImage_56 : decode cX0_becomeImage 56 = .ok (.iload 6, 2) := by decide +kernel
theorem dX0_becomeImage_58 : decode cX0_becomeImage 58 = .ok (.iload 7, 2) := by decide +kernel
theorem dX0_becomeImage_60 : decode cX0_becomeImage 60 = .ok (.invokevirtual 61, 3) := by decide +kernel
theorem dX0_becomeImage_63 : decode cX0_becomeImage 63 = .ok (.aload 4, 2) := by decide +kernel
theorem dX0_becomeImage_65 : decode cX0_becomeImage 65 = .ok (.aload_n 1, 1) := by decide +kernel
theorem dX0_becomeImage_66 : decode cX0_becomeImage 66 = .ok (.iload 5, 2) := by decide +kernel
theorem dX0_becomeImage_68 : decode cX0_becomeImage 68 = .ok (.aload_n 3, 1) := by decide +kernel
theorem dX0_becomeImage_69 : decode cX0_becomeImage 69 = .ok (.iload 6, 2) := by decide +kernel
theorem dX0_becomeImage_71 : decode cX0_becomeImage 71 = .ok (.iaload, 1) := by decide +kernel
theorem dX0_becomeImage_72 : decode cX0_becomeImage 72 = .ok (.aload_n 3, 1) := by decide +kernel
theorem dX0_becomeImage_73 : decode cX0_becomeImage 73 = .ok (.iload 7, 2) := by decide +kernel
theorem dX0_becomeImage_75 : decode cX0_becomeImage 75 = .ok (.iaload, 1) := by decide +kernel
theorem dX0_becomeImage_76 : decode cX0_becomeImage 76 = .ok (.invokevirtual 99, 3) := by decide +kernel
theorem dX0_becomeImage_79 : decode cX0_becomeImage 79 = .ok (.iaload, 1) := by decide +kernel
theorem dX0_becomeImage_80 : decode cX0_becomeImage 80 = .ok (.iastore, 1) := by decide +kernel
theorem dX0_becomeImage_81 : decode cX0_becomeImage 81 = .ok (.iinc 7 1, 3) := by decide +kernel
theorem dX0_becomeImage_84 : decode cX0_becomeImage 84 = .ok (.goto (-46), 3) := by decide +kernel
theorem dX0_becomeImage_87 : decode cX0_becomeImage 87 = .ok (.iinc 6 1, 3) := by decide +kernel
theorem dX0_becomeImage_90 : decode cX0_becomeImage 90 = .ok (.goto (-66), 3) := by decide +kernel
theorem dX0_becomeImage_93 : decode cX0_becomeImage 93 = .ok (.iinc 5 1, 3) := by decide +kernel
theorem dX0_becomeImage_96 : decode cX0_becomeImage 96 = .ok (.goto (-84), 3) := by decide +kernel
theorem dX0_becomeImage_99 : decode cX0_becomeImage 99 = .ok (.return_, 1) := by decide +kernel
def LX0_becomeImage_38 (F : Nat) (u0 : Nat) (u1 : Nat) (u3 : Nat) (u4 : Nat) (u5 : Int) (u6 : Int) (k87 : Int → HF → RO) : Nat → Int → HF → RO
  | 0, _, _ => none
  | n + 1, v7, h =>
    zbd (fX0_columns F u0 u5 h) fun r7 h =>
    if v7 < r7 then (
      zbd (fX0_spot F u0 u5 u6 v7 h) fun r8 h =>
      zrd h u3 u6 fun x9 =>
      zrd h u3 v7 fun x10 =>
      zbd (fX0_value F u1 u5 x9 x10 h) fun r11 h =>
      zrd h u4 r11 fun x12 =>
      zwr h (u0 + 3) r8 x12 fun h =>
      zlet (wr (v7 + 1)) fun x13 =>
      LX0_becomeImage_38 F u0 u1 u3 u4 u5 u6 k87 n x13 h
    ) else (
      k87 u6 h
    )
set_option maxHeartbeats 4000000 in
set_option maxRecDepth 100000 in
theorem wX0_becomeImage_38 {p : Program} {l : Launch} {e : Env} {s : State} {m : MethodId} {args : Array Value} {below : List Frame} {meth : Method} {c : Code} {Q : State → Prop} {g : zG} {B : Nat} {o : Int × HF} (F : Nat) (cx : Cx p s m args meth c cX0_becomeImage 8 RX0 none g B) (u0 : Nat) (ru0 : kt u0 = 3) (u1 : Nat) (ru1 : kt u1 = 3) (u3 : Nat) (ru3 : kt u3 = 0) (u4 : Nat) (ru4 : kt u4 = 0) (u5 : Int) (ru5 : rng u5) (u6 : Int) (ru6 : rng u6) (k87 : Int → HF → RO) (hk87 : ∀ (x6 : Int) (h : HF) (H : Heap) (locs : List Loc) (ls : Array Slot), rng x6 → Hp g B s h H locs → lv_has ls 8 [(0, .ref (B + u0)), (1, .ref (B + u1)), (3, .ref (B + u3)), (4, .ref (B + u4)), (5, .int (ii u5)), (6, .int (ii x6))] → k87 x6 h = some o → W p l e (rmn 4) s m args below meth c H locs 0 0 Q (F0 m 87 ls [])) : ∀ (n : Nat) (v7 : Int) (h : HF) (H : Heap) (locs : List Loc) (ls : Array Slot), rng v7 → Hp g B s h H locs → lv_has ls 8 [(0, .ref (B + u0)), (1, .ref (B + u1)), (3, .ref (B + u3)), (4, .ref (B + u4)), (5, .int (ii u5)), (6, .int (ii u6)), (7, .int (ii v7))] → LX0_becomeImage_38 F u0 u1 u3 u4 u5 u6 k87 n v7 h = some o → W p l e (rmn 4) s m args below meth c H locs 0 0 Q (F0 m 38 ls []) := by
  intro n
  induction n with
  | zero =>
    intro v7 h H locs ls rv7 hp hl hf
    cases hf
  | succ n ih =>
    intro v7 h H locs ls rv7 hp hl hf
    rw [LX0_becomeImage_38] at hf
    refine lv_iload cx.1 cx.2.1 dX0_becomeImage_38 (lv_at hl 6 rfl) ?_
    refine lv_aload_n cx.1 cx.2.1 dX0_becomeImage_40 rfl (lv_at hl 0 rfl) ?_
    refine lv_iload cx.1 cx.2.1 dX0_becomeImage_41 (lv_at hl 4 rfl) ?_
    refine z_ci cx hp (fun o' hx => zrunV (n := 4) (As := [.int (ii u5)]) (rest := [.int (ii v7)]) cx hp (mX0_columns F l g B h u0 u5 ru0 ru5 o' hx) 0 ru0 (by decide) rfl vw_X0_columns ml_X0_39 (by decide) rfl hl.1 rfl (Nat.le_of_ble_eq_true rfl) dX0_becomeImage_43) hf (fun r7 h H locs rr7 hp hf => ?_)
    refine z_icmp_ge cx rv7 rr7 (tgt := 87) dX0_becomeImage_46 (by decide) hf (fun _ hf => ?_) (fun _ hf => ?_)
    · refine lv_aload_n cx.1 cx.2.1 dX0_becomeImage_49 rfl (lv_at hl 0 rfl) ?_
      refine z_gets cx hp (T := TX0) 0 5 (u0 + 3) rfl zin_0 (by decide) (by decide) ru0 rfl fl_X0_18 dX0_becomeImage_50 ?_
      refine lv_aload_n cx.1 cx.2.1 dX0_becomeImage_53 rfl (lv_at hl 0 rfl) ?_
      refine lv_iload cx.1 cx.2.1 dX0_becomeImage_54 (lv_at hl 4 rfl) ?_
      refine lv_iload cx.1 cx.2.1 dX0_becomeImage_56 (lv_at hl 5 rfl) ?_
      refine lv_iload cx.1 cx.2.1 dX0_becomeImage_58 (lv_at hl 6 rfl) ?_
      refine z_ci cx hp (fun o' hx => zrunV (n := 4) (As := [.int (ii u5), .int (ii u6), .int (ii v7)]) (rest := [.ref (B + (u0 + 3))]) cx hp (mX0_spot F l g B h u0 u5 u6 v7 ru0 ru5 ru6 rv7 o' hx) 0 ru0 (by decide) rfl vw_X0_spot ml_X0_61 (by decide) rfl hl.1 rfl (Nat.le_of_ble_eq_true rfl) dX0_becomeImage_60) hf (fun r8 h H locs rr8 hp hf => ?_)
      refine lv_aload cx.1 cx.2.1 dX0_becomeImage_63 (lv_at hl 3 rfl) ?_
      refine lv_aload_n cx.1 cx.2.1 dX0_becomeImage_65 rfl (lv_at hl 1 rfl) ?_
      refine lv_iload cx.1 cx.2.1 dX0_becomeImage_66 (lv_at hl 4 rfl) ?_
      refine lv_aload_n cx.1 cx.2.1 dX0_becomeImage_68 rfl (lv_at hl 2 rfl) ?_
      refine lv_iload cx.1 cx.2.1 dX0_becomeImage_69 (lv_at hl 5 rfl) ?_
      refine z_iald cx hp ru3 ru6 dX0_becomeImage_71 hf (fun x9 rx9 hf => ?_)
      refine lv_aload_n cx.1 cx.2.1 dX0_becomeImage_72 rfl (lv_at hl 2 rfl) ?_
      refine lv_iload cx.1 cx.2.1 dX0_becomeImage_73 (lv_at hl 6 rfl) ?_
      refine z_iald cx hp ru3 rv7 dX0_becomeImage_75 hf (fun x10 rx10 hf => ?_)
      refine z_ci cx hp (fun o' hx => zrunV (n := 4) (As := [.int (ii u5), .int (ii x9), .int (ii x10)]) (rest := [.ref (B + u4), .int (ii r8), .ref (B + (u0 + 3))]) cx hp (mX0_value F l g B h u1 u5 x9 x10 ru1 ru5 rx9 rx10 o' hx) 0 ru1 (by decide) rfl vw_X0_value ml_X0_99 (by decide) rfl hl.1 rfl (Nat.le_of_ble_eq_true rfl) dX0_becomeImage_76) hf (fun r11 h H locs rr11 hp hf => ?_)
      refine z_iald cx hp ru4 rr11 dX0_becomeImage_79 hf (fun x12 rx12 hf => ?_)
      refine z_iast cx hp (zs_0_5 u0 (kt_lt ru0 (by decide)) ru0) rr8 rx12 dX0_becomeImage_80 hf (fun h H locs hp hf => ?_)
      refine z_iinc cx (fun x13 => [(7, .int (ii x13)), (0, .ref (B + u0)), (1, .ref (B + u1)), (3, .ref (B + u3)), (4, .ref (B + u4)), (5, .int (ii u5)), (6, .int (ii u6))]) dX0_becomeImage_81 hl (k := 6) rfl (by decide) (fun _ => rfl) hf (fun x13 rx13 hf ls hl => ?_)
      refine lv_goto (tgt := 38) cx.1 cx.2.1 dX0_becomeImage_84 (by decide) ?_
      exact ih x13 h _ _ ls rx13 hp (lv_sub hl [1, 2, 3, 4, 5, 6, 0] rfl) hf
    · exact hk87 u6 h _ _ ls ru6 hp (lv_sub hl [0, 1, 2, 3, 4, 5] rfl) hf
def LX0_becomeImage_24 (F : Nat) (u0 : Nat) (u1 : Nat) (u3 : Nat) (u4 : Nat) (u5 : Int) (k93 : Int → HF → RO) : Nat → Int → HF → RO
  | 0, _, _ => none
  | n + 1, v6, h =>
    zbd (fX0_rows F u0 u5 h) fun r5 h =>
    if v6 < r5 then (
      zjn (fun (x87_6 : Int) (h : HF) => (
        zlet (wr (x87_6 + 1)) fun x6 =>
        LX0_becomeImage_24 F u0 u1 u3 u4 u5 k93 n x6 h
      )) fun j87 =>
      LX0_becomeImage_38 F u0 u1 u3 u4 u5 v6 j87 F 0 h
    ) else (
      k93 u5 h
    )
set_option maxHeartbeats 4000000 in
set_option maxRecDepth 100000 in
theorem wX0_becomeImage_24 {p : Program} {l : Launch} {e : Env} {s : State} {m : MethodId} {args : Array Value} {below : List Frame} {meth : Method} {c : Code} {Q : State → Prop} {g : zG} {B : Nat} {o : Int × HF} (F : Nat) (cx : Cx p s m args meth c cX0_becomeImage 8 RX0 none g B) (u0 : Nat) (ru0 : kt u0 = 3) (u1 : Nat) (ru1 : kt u1 = 3) (u3 : Nat) (ru3 : kt u3 = 0) (u4 : Nat) (ru4 : kt u4 = 0) (u5 : Int) (ru5 : rng u5) (k93 : Int → HF → RO) (hk93 : ∀ (x5 : Int) (h : HF) (H : Heap) (locs : List Loc) (ls : Array Slot), rng x5 → Hp g B s h H locs → lv_has ls 8 [(0, .ref (B + u0)), (1, .ref (B + u1)), (3, .ref (B + u3)), (4, .ref (B + u4)), (5, .int (ii x5))] → k93 x5 h = some o → W p l e (rmn 4) s m args below meth c H locs 0 0 Q (F0 m 93 ls [])) : ∀ (n : Nat) (v6 : Int) (h : HF) (H : Heap) (locs : List Loc) (ls : Array Slot), rng v6 → Hp g B s h H locs → lv_has ls 8 [(0, .ref (B + u0)), (1, .ref (B + u1)), (3, .ref (B + u3)), (4, .ref (B + u4)), (5, .int (ii u5)), (6, .int (ii v6))] → LX0_becomeImage_24 F u0 u1 u3 u4 u5 k93 n v6 h = some o → W p l e (rmn 4) s m args below meth c H locs 0 0 Q (F0 m 24 ls []) := by
  intro n
  induction n with
  | zero =>
    intro v6 h H locs ls rv6 hp hl hf
    cases hf
  | succ n ih =>
    intro v6 h H locs ls rv6 hp hl hf
    rw [LX0_becomeImage_24] at hf
    refine lv_iload cx.1 cx.2.1 dX0_becomeImage_24 (lv_at hl 5 rfl) ?_
    refine lv_aload_n cx.1 cx.2.1 dX0_becomeImage_26 rfl (lv_at hl 0 rfl) ?_
    refine lv_iload cx.1 cx.2.1 dX0_becomeImage_27 (lv_at hl 4 rfl) ?_
    refine z_ci cx hp (fun o' hx => zrunV (n := 4) (As := [.int (ii u5)]) (rest := [.int (ii v6)]) cx hp (mX0_rows F l g B h u0 u5 ru0 ru5 o' hx) 0 ru0 (by decide) rfl vw_X0_rows ml_X0_35 (by decide) rfl hl.1 rfl (Nat.le_of_ble_eq_true rfl) dX0_becomeImage_29) hf (fun r5 h H locs rr5 hp hf => ?_)
    refine z_icmp_ge cx rv6 rr5 (tgt := 93) dX0_becomeImage_32 (by decide) hf (fun _ hf => ?_) (fun _ hf => ?_)
    · refine z_iconst cx dX0_becomeImage_35 ?_
      refine lv_istore (lv' := [(7, .int (ii 0)), (0, .ref (B + u0)), (1, .ref (B + u1)), (3, .ref (B + u3)), (4, .ref (B + u4)), (5, .int (ii u5)), (6, .int (ii v6))]) cx.1 cx.2.1 dX0_becomeImage_36 hl (by decide) rfl (fun ls hl => ?_)
      refine z_jn hf (fun j => ∀ (x87_6 : Int) (h : HF) (H : Heap) (locs : List Loc) (ls : Array Slot), rng x87_6 → Hp g B s h H locs → lv_has ls 8 [(0, .ref (B + u0)), (1, .ref (B + u1)), (3, .ref (B + u3)), (4, .ref (B + u4)), (5, .int (ii u5)), (6, .int (ii x87_6))] → j x87_6 h = some o → W p l e (rmn 4) s m args below meth c H locs 0 0 Q (F0 m 87 ls [])) ?_ (fun j87 hj87 hf => ?_)
      · intro x87_6 h H locs ls rx87_6 hp hl hf
        refine z_iinc cx (fun x6 => [(6, .int (ii x6)), (0, .ref (B + u0)), (1, .ref (B + u1)), (3, .ref (B + u3)), (4, .ref (B + u4)), (5, .int (ii u5))]) dX0_becomeImage_87 hl (k := 5) rfl (by decide) (fun _ => rfl) hf (fun x6 rx6 hf ls hl => ?_)
        refine lv_goto (tgt := 24) cx.1 cx.2.1 dX0_becomeImage_90 (by decide) ?_
        exact ih x6 h _ _ ls rx6 hp (lv_sub hl [1, 2, 3, 4, 5, 0] rfl) hf
      exact wX0_becomeImage_38 F cx u0 ru0 u1 ru1 u3 ru3 u4 ru4 u5 ru5 v6 rv6 j87 hj87 F 0 h _ _ ls (by decide) hp (lv_sub hl [1, 2, 3, 4, 5, 6, 0] rfl) hf
    · exact hk93 u5 h _ _ ls ru5 hp (lv_sub hl [0, 1, 2, 3, 4] rfl) hf
def LX0_becomeImage_12 (F : Nat) (u0 : Nat) (u1 : Nat) (u3 : Nat) (u4 : Nat) (k99 : HF → RO) : Nat → Int → HF → RO
  | 0, _, _ => none
  | n + 1, v5, h =>
    zgf h u0 1 fun x3 =>
    if v5 < x3 then (
      zjn (fun (x93_5 : Int) (h : HF) => (
        zlet (wr (x93_5 + 1)) fun x4 =>
        LX0_becomeImage_12 F u0 u1 u3 u4 k99 n x4 h
      )) fun j93 =>
      LX0_becomeImage_24 F u0 u1 u3 u4 v5 j93 F 0 h
    ) else (
      k99  h
    )
set_option maxHeartbeats 4000000 in
set_option maxRecDepth 100000 in
theorem wX0_becomeImage_12 {p : Program} {l : Launch} {e : Env} {s : State} {m : MethodId} {args : Array Value} {below : List Frame} {meth : Method} {c : Code} {Q : State → Prop} {g : zG} {B : Nat} {o : Int × HF} (F : Nat) (cx : Cx p s m args meth c cX0_becomeImage 8 RX0 none g B) (u0 : Nat) (ru0 : kt u0 = 3) (u1 : Nat) (ru1 : kt u1 = 3) (u3 : Nat) (ru3 : kt u3 = 0) (u4 : Nat) (ru4 : kt u4 = 0) (k99 : HF → RO) (hk99 : ∀  (h : HF) (H : Heap) (locs : List Loc) (ls : Array Slot), Hp g B s h H locs → lv_has ls 8 [] → k99  h = some o → W p l e (rmn 4) s m args below meth c H locs 0 0 Q (F0 m 99 ls [])) : ∀ (n : Nat) (v5 : Int) (h : HF) (H : Heap) (locs : List Loc) (ls : Array Slot), rng v5 → Hp g B s h H locs → lv_has ls 8 [(0, .ref (B + u0)), (1, .ref (B + u1)), (3, .ref (B + u3)), (4, .ref (B + u4)), (5, .int (ii v5))] → LX0_becomeImage_12 F u0 u1 u3 u4 k99 n v5 h = some o → W p l e (rmn 4) s m args below meth c H locs 0 0 Q (F0 m 12 ls []) := by
  intro n
  induction n with
  | zero =>
    intro v5 h H locs ls rv5 hp hl hf
    cases hf
  | succ n ih =>
    intro v5 h H locs ls rv5 hp hl hf
    rw [LX0_becomeImage_12] at hf
    refine lv_iload cx.1 cx.2.1 dX0_becomeImage_12 (lv_at hl 4 rfl) ?_
    refine lv_aload_n cx.1 cx.2.1 dX0_becomeImage_14 rfl (lv_at hl 0 rfl) ?_
    refine z_geti cx hp (T := TX0) 0 1 rfl zin_0 (by decide) (by decide) ru0 rfl fl_X0_29 dX0_becomeImage_15 hf (fun x3 rx3 hf => ?_)
    refine z_icmp_ge cx rv5 rx3 (tgt := 99) dX0_becomeImage_18 (by decide) hf (fun _ hf => ?_) (fun _ hf => ?_)
    · refine z_iconst cx dX0_becomeImage_21 ?_
      refine lv_istore (lv' := [(6, .int (ii 0)), (0, .ref (B + u0)), (1, .ref (B + u1)), (3, .ref (B + u3)), (4, .ref (B + u4)), (5, .int (ii v5))]) cx.1 cx.2.1 dX0_becomeImage_22 hl (by decide) rfl (fun ls hl => ?_)
      refine z_jn hf (fun j => ∀ (x93_5 : Int) (h : HF) (H : Heap) (locs : List Loc) (ls : Array Slot), rng x93_5 → Hp g B s h H locs → lv_has ls 8 [(0, .ref (B + u0)), (1, .ref (B + u1)), (3, .ref (B + u3)), (4, .ref (B + u4)), (5, .int (ii x93_5))] → j x93_5 h = some o → W p l e (rmn 4) s m args below meth c H locs 0 0 Q (F0 m 93 ls [])) ?_ (fun j93 hj93 hf => ?_)
      · intro x93_5 h H locs ls rx93_5 hp hl hf
        refine z_iinc cx (fun x4 => [(5, .int (ii x4)), (0, .ref (B + u0)), (1, .ref (B + u1)), (3, .ref (B + u3)), (4, .ref (B + u4))]) dX0_becomeImage_93 hl (k := 4) rfl (by decide) (fun _ => rfl) hf (fun x4 rx4 hf ls hl => ?_)
        refine lv_goto (tgt := 12) cx.1 cx.2.1 dX0_becomeImage_96 (by decide) ?_
        exact ih x4 h _ _ ls rx4 hp (lv_sub hl [1, 2, 3, 4, 0] rfl) hf
      exact wX0_becomeImage_24 F cx u0 ru0 u1 ru1 u3 ru3 u4 ru4 v5 rv5 j93 hj93 F 0 h _ _ ls (by decide) hp (lv_sub hl [1, 2, 3, 4, 5, 0] rfl) hf
    · exact hk99  h _ _ ls  hp (lv_sub hl [] rfl) hf
def fX0_becomeImage (F : Nat) (a0 : Nat) (a1 : Nat) (a2 : Int) (a3 : Nat) (a4 : Nat) (h : HF) : RO :=
  zgf h a1 2 fun x1 =>
  zbd (fX0_shape F a0 a2 x1 h) fun _ h =>
  zjn (fun  (h : HF) => (
    some (0, h)
  )) fun j99 =>
  LX0_becomeImage_12 F a0 a1 a3 a4 j99 F 0 h
set_option maxHeartbeats 4000000 in
set_option maxRecDepth 100000 in
theorem mX0_becomeImage (F : Nat) (l : Launch) (g : zG) (B : Nat) (h : HF) (a0 : Nat) (a1 : Nat) (a2 : Int) (a3 : Nat) (a4 : Nat) (ra0 : kt a0 = 3) (ra1 : kt a1 = 3) (ra2 : rng a2) (ra3 : kt a3 = 0) (ra4 : kt a4 = 0) : CTv l g B yX0_becomeImage cX0_becomeImage 8 4 [.ref (B + a0), .ref (B + a1), .int (ii a2), .ref (B + a3), .ref (B + a4)] h (fX0_becomeImage F a0 a1 a2 a3 a4 h) := by
  refine z_enterV (by decide) rfl (Nat.le_of_ble_eq_true rfl) ?_
  intro p e s m args below meth c ls o Q cx hp hl hf hQ
  have hl : lv_has ls 8 [(0, .ref (B + a0)), (1, .ref (B + a1)), (2, .int (ii a2)), (3, .ref (B + a3)), (4, .ref (B + a4))] := hl
  unfold fX0_becomeImage at hf
  refine lv_aload_n cx.1 cx.2.1 dX0_becomeImage_0 rfl (lv_at hl 0 rfl) ?_
  refine lv_iload_n cx.1 cx.2.1 dX0_becomeImage_1 rfl (lv_at hl 2 rfl) ?_
  refine lv_aload_n cx.1 cx.2.1 dX0_becomeImage_2 rfl (lv_at hl 1 rfl) ?_
  refine z_geti cx hp (T := TX0) 0 2 rfl zin_0 (by decide) (by decide) ra1 rfl fl_X0_32 dX0_becomeImage_3 hf (fun x1 rx1 hf => ?_)
  refine z_cv cx hp (fun o' hx => zrunV (n := 4) (As := [.int (ii a2), .int (ii x1)]) (rest := []) cx hp (mX0_shape F l g B h a0 a2 x1 ra0 ra2 rx1 o' hx) 0 ra0 (by decide) rfl vw_X0_shape ml_X0_112 (by decide) rfl hl.1 rfl (Nat.le_of_ble_eq_true rfl) dX0_becomeImage_6) hf (fun _ h H locs hp hf => ?_)
  refine z_iconst cx dX0_becomeImage_9 ?_
  refine lv_istore (lv' := [(5, .int (ii 0)), (0, .ref (B + a0)), (1, .ref (B + a1)), (2, .int (ii a2)), (3, .ref (B + a3)), (4, .ref (B + a4))]) cx.1 cx.2.1 dX0_becomeImage_10 hl (by decide) rfl (fun ls hl => ?_)
  refine z_jn hf (fun j => ∀  (h : HF) (H : Heap) (locs : List Loc) (ls : Array Slot), Hp g B s h H locs → lv_has ls 8 [] → j  h = some o → W p l e (rmn 4) s m args below meth c H locs 0 0 Q (F0 m 99 ls [])) ?_ (fun j99 hj99 hf => ?_)
  · intro  h H locs ls  hp hl hf
    rw [hQ]; exact z_vret cx hp dX0_becomeImage_99 hf
  exact wX0_becomeImage_12 F cx a0 ra0 a1 ra1 a3 ra3 a4 ra4 j99 hj99 F 0 h _ _ ls (by decide) hp (lv_sub hl [1, 2, 4, 5, 0] rfl) hf
theorem dX0_becomeProduct_0 : decode cX0_becomeProduct 0 = .ok (.aload_n 2, 1) := by decide +kernel
theorem dX0_becomeProduct_1 : decode cX0_becomeProduct 1 = .ok (.getfield 21, 3) := by decide +kernel
theorem dX0_becomeProduct_4 : decode cX0_becomeProduct 4 = .ok (.istore_n 3, 1) := by decide +kernel
theorem dX0_becomeProduct_5 : decode cX0_becomeProduct 5 = .ok (.iload_n 3, 1) := by decide +kernel
theorem dX0_becomeProduct_6 : decode cX0_becomeProduct 6 = .ok (.iconst 1, 1) := by decide +kernel
theorem dX0_becomeProduct_7 : decode cX0_becomeProduct 7 = .ok (.if_icmp .ge 4, 3) := by decide +kernel
theorem dX0_becomeProduct_10 : decode cX0_becomeProduct 10 = .ok (.return_, 1) := by decide +kernel
theorem dX0_becomeProduct_11 : decode cX0_becomeProduct 11 = .ok (.aload_n 0, 1) := by decide +kernel
theorem dX0_becomeProduct_12 : decode cX0_becomeProduct 12 = .ok (.aload_n 1, 1) := by decide +kernel
theorem dX0_becomeProduct_13 : decode cX0_becomeProduct 13 = .ok (.getfield 21, 3) := by decide +kernel
theorem dX0_becomeProduct_16 : decode cX0_becomeProduct 16 = .ok (.iload_n 3, 1) := by decide +kernel
theorem dX0_becomeProduct_17 : decode cX0_becomeProduct 17 = .ok (.imul, 1) := by decide +kernel
theorem dX0_becomeProduct_18 : decode cX0_becomeProduct 18 = .ok (.aload_n 1, 1) := by decide +kernel
theorem dX0_becomeProduct_19 : decode cX0_becomeProduct 19 = .ok (.getfield 32, 3) := by decide +kernel
theorem dX0_becomeProduct_22 : decode cX0_becomeProduct 22 = .ok (.invokevirtual 112, 3) := by decide +kernel
theorem dX0_becomeProduct_25 : decode cX0_becomeProduct 25 = .ok (.iconst 0, 1) := by decide +kernel
theorem dX0_becomeProduct_26 : decode cX0_becomeProduct 26 = .ok (.istore 4, 2) := by decide +kernel
theorem dX0_becomeProduct_28 : decode cX0_becomeProduct 28 = .ok (.iload 4, 2) := by decide +kernel
theorem dX0_becomeProduct_30 : decode cX0_becomeProduct 30 = .ok (.aload_n 0, 1) := by decide +kernel
theorem dX0_becomeProduct_31 : decode cX0_becomeProduct 31 = .ok (.getfield 29, 3) := by decide +kernel
theorem dX0_becomeProduct_34 : decode cX0_becomeProduct 34 = .ok (.if_icmp .ge 103, 3) := by decide +kernel
theorem dX0_becomeProduct_37 : decode cX0_becomeProduct 37 = .ok (.iconst 0, 1) := by decide +kernel
theorem dX0_becomeProduct_38 : decode cX0_becomeProduct 38 = .ok (.istore 5, 2) := by decide +kernel
theorem dX0_becomeProduct_40 : decode cX0_becomeProduct 40 = .ok (.iload 5, 2) := by decide +kernel
theorem dX0_becomeProduct_42 : decode cX0_becomeProduct 42 = .ok (.aload_n 0, 1) := by decide +kernel
theorem dX0_becomeProduct_43 : decode cX0_becomeProduct 43 = .ok (.iload 4, 2) := by decide +kernel
theorem dX0_becomeProduct_45 : decode cX0_becomeProduct 45 = .ok (.invokevirtual 35, 3) := by decide +kernel
theorem dX0_becomeProduct_48 : decode cX0_becomeProduct 48 = .ok (.if_icmp .ge 83, 3) := by decide +kernel
theorem dX0_becomeProduct_51 : decode cX0_becomeProduct 51 = .ok (.iconst 0, 1) := by decide +kernel
theorem dX0_becomeProduct_52 : decode cX0_becomeProduct 52 = .ok (.istore 6, 2) := by decide +kernel
theorem dX0_becomeProduct_54 : decode cX0_becomeProduct 54 = .ok (.iload 6, 2) := by decide +kernel
theorem dX0_becomeProduct_56 : decode cX0_becomeProduct 56 = .ok (.aload_n 0, 1) := by decide +kernel
theorem dX0_becomeProduct_57 : decode cX0_becomeProduct 57 = .ok (.iload 4, 2) := by decide +kernel
theorem dX0_becomeProduct_59 : decode cX0_becomeProduct 59 = .ok (.invokevirtual 39, 3) := by decide +kernel
theorem dX0_becomeProduct_62 : decode cX0_becomeProduct 62 = .ok (.if_icmp .ge 63, 3) := by decide +kernel
theorem dX0_becomeProduct_65 : decode cX0_becomeProduct 65 = .ok (.aload_n 1, 1) := by decide +kernel
theorem dX0_becomeProduct_66 : decode cX0_becomeProduct 66 = .ok (.iload 4, 2) := by decide +kernel
theorem dX0_becomeProduct_68 : decode cX0_becomeProduct 68 = .ok (.iload 5, 2) := by decide +kernel
theorem dX0_becomeProduct_70 : decode cX0_becomeProduct 70 = .ok (.iload_n 3, 1) := by decide +kernel
theorem dX0_becomeProduct_71 : decode cX0_becomeProduct 71 = .ok (.idiv, 1) := by decide +kernel
theorem dX0_becomeProduct_72 : decode cX0_becomeProduct 72 = .ok (.iload 6, 2) := by decide +kernel
theorem dX0_becomeProduct_74 : decode cX0_becomeProduct 74 = .ok (.iload_n 3, 1) := by decide +kernel
theorem dX0_becomeProduct_75 : decode cX0_becomeProduct 75 = .ok (.idiv, 1) := by decide +kernel
theorem dX0_becomeProduct_76 : decode cX0_becomeProduct 76 = .ok (.invokevirtual 99, 3) := by decide +kernel
theorem dX0_becomeProduct_79 : decode cX0_becomeProduct 79 = .ok (.istore 7, 2) := by decide +kernel
theorem dX0_becomeProduct_81 : decode cX0_becomeProduct 81 = .ok (.aload_n 2, 1) := by decide +kernel
theorem dX0_becomeProduct_82 : decode cX0_becomeProduct 82 = .ok (.iload 4, 2) := by decide +kernel
theorem dX0_becomeProduct_84 : decode cX0_becomeProduct 84 = .ok (.iload 5, 2) := by decide +kernel
theorem dX0_becomeProduct_86 : decode cX0_becomeProduct 86 = .ok (.iload_n 3, 1) := by decide +kernel
theorem dX0_becomeProduct_87 : decode cX0_becomeProduct 87 = .ok (.irem, 1) := by decide +kernel
theorem dX0_becomeProduct_88 : decode cX0_becomeProduct 88 = .ok (.iload 6, 2) := by decide +kernel
theorem dX0_becomeProduct_90 : decode cX0_becomeProduct 90 = .ok (.iload_n 3, 1) := by decide +kernel
theorem dX0_becomeProduct_91 : decode cX0_becomeProduct 91 = .ok (.irem, 1) := by decide +kernel
theorem dX0_becomeProduct_92 : decode cX0_becomeProduct 92 = .ok (.invokevirtual 99, 3) := by decide +kernel
theorem dX0_becomeProduct_95 : decode cX0_becomeProduct 95 = .ok (.istore 8, 2) := by decide +kernel
theorem dX0_becomeProduct_97 : decode cX0_becomeProduct 97 = .ok (.aload_n 0, 1) := by decide +kernel
theorem dX0_becomeProduct_98 : decode cX0_becomeProduct 98 = .ok (.getfield 18, 3) := by decide +kernel
theorem dX0_becomeProduct_101 : decode cX0_becomeProduct 101 = .ok (.aload_n 0, 1) := by decide +kernel
theorem dX0_becomeProduct_102 : decode cX0_becomeProduct 102 = .ok (.iload 4, 2) := by decide +kernel
theorem dX0_becomeProduct_104 : decode cX0_becomeProduct 104 = .ok (.iload 5, 2) := by decide +kernel
theorem dX0_becomeProduct_106 : decode cX0_becomeProduct 106 = .ok (.iload 6, 2) := by decide +kernel
theorem dX0_becomeProduct_108 : decode cX0_becomeProduct 108 = .ok (.invokevirtual 61, 3) := by decide +kernel
theorem dX0_becomeProduct_111 : decode cX0_becomeProduct 111 = .ok (.iload 7, 2) := by decide +kernel
theorem dX0_becomeProduct_113 : decode cX0_becomeProduct 113 = .ok (.iload_n 3, 1) := by decide +kernel
theorem dX0_becomeProduct_114 : decode cX0_becomeProduct 114 = .ok (.imul, 1) := by decide +kernel
theorem dX0_becomeProduct_115 : decode cX0_becomeProduct 115 = .ok (.iload 8, 2) := by decide +kernel
theorem dX0_becomeProduct_117 : decode cX0_becomeProduct 117 = .ok (.iadd, 1) := by decide +kernel
theorem dX0_becomeProduct_118 : decode cX0_becomeProduct 118 = .ok (.iastore, 1) := by decide +kernel
theorem dX0_becomeProduct_119 : decode cX0_becomeProduct 119 = .ok (.iinc 6 1, 3) := by decide +kernel
theorem dX0_becomeProduct_122 : decode cX0_becomeProduct 122 = .ok (.goto (-68), 3) := by decide +kernel
theorem dX0_becomeProduct_125 : decode cX0_becomeProduct 125 = .ok (.iinc 5 1, 3) := by decide +kernel
theorem dX0_becomeProduct_128 : decode cX0_becomeProduct 128 = .ok (.goto (-88), 3) := by decide +kernel
theorem dX0_becomeProduct_131 : decode cX0_becomeProduct 131 = .ok (.iinc 4 1, 3) := by decide +kernel
theorem dX0_becomeProduct_134 : decode cX0_becomeProduct 134 = .ok (.goto (-106), 3) := by decide +kernel
theorem dX0_becomeProduct_137 : decode cX0_becomeProduct 137 = .ok (.return_, 1) := by decide +kernel
def LX0_becomeProduct_54 (F : Nat) (u0 : Nat) (u1 : Nat) (u2 : Nat) (u3 : Int) (u4 : Int) (u5 : Int) (k125 : Int → HF → RO) : Nat → Int → HF → RO
  | 0, _, _ => none
  | n + 1, v6, h =>
    zbd (fX0_columns F u0 u4 h) fun r9 h =>
    if v6 < r9 then (
      zdv u3 <|
      zdv u3 <|
      zbd (fX0_value F u1 u4 (wdiv u5 u3) (wdiv v6 u3) h) fun r10 h =>
      zdv u3 <|
      zdv u3 <|
      zbd (fX0_value F u2 u4 (wrem u5 u3) (wrem v6 u3) h) fun r11 h =>
      zbd (fX0_spot F u0 u4 u5 v6 h) fun r12 h =>
      zwr h (u0 + 3) r12 (wr ((wr (r10 * u3)) + r11)) fun h =>
      zlet (wr (v6 + 1)) fun x13 =>
      LX0_becomeProduct_54 F u0 u1 u2 u3 u4 u5 k125 n x13 h
    ) else (
      k125 u5 h
    )
set_option maxHeartbeats 4000000 in
set_option maxRecDepth 100000 in
theorem wX0_becomeProduct_54 {p : Program} {l : Launch} {e : Env} {s : State} {m : MethodId} {args : Array Value} {below : List Frame} {meth : Method} {c : Code} {Q : State → Prop} {g : zG} {B : Nat} {o : Int × HF} (F : Nat) (cx : Cx p s m args meth c cX0_becomeProduct 9 RX0 none g B) (u0 : Nat) (ru0 : kt u0 = 3) (u1 : Nat) (ru1 : kt u1 = 3) (u2 : Nat) (ru2 : kt u2 = 3) (u3 : Int) (ru3 : rng u3) (u4 : Int) (ru4 : rng u4) (u5 : Int) (ru5 : rng u5) (k125 : Int → HF → RO) (hk125 : ∀ (x5 : Int) (h : HF) (H : Heap) (locs : List Loc) (ls : Array Slot), rng x5 → Hp g B s h H locs → lv_has ls 9 [(0, .ref (B + u0)), (1, .ref (B + u1)), (2, .ref (B + u2)), (3, .int (ii u3)), (4, .int (ii u4)), (5, .int (ii x5))] → k125 x5 h = some o → W p l e (rmn 4) s m args below meth c H locs 0 0 Q (F0 m 125 ls [])) : ∀ (n : Nat) (v6 : Int) (h : HF) (H : Heap) (locs : List Loc) (ls : Array Slot), rng v6 → Hp g B s h H locs → lv_has ls 9 [(0, .ref (B + u0)), (1, .ref (B + u1)), (2, .ref (B + u2)), (3, .int (ii u3)), (4, .int (ii u4)), (5, .int (ii u5)), (6, .int (ii v6))] → LX0_becomeProduct_54 F u0 u1 u2 u3 u4 u5 k125 n v6 h = some o → W p l e (rmn 4) s m args below meth c H locs 0 0 Q (F0 m 54 ls []) := by
  intro n
  induction n with
  | zero =>
    intro v6 h H locs ls rv6 hp hl hf
    cases hf
  | succ n ih =>
    intro v6 h H locs ls rv6 hp hl hf
    rw [LX0_becomeProduct_54] at hf
    refine lv_iload cx.1 cx.2.1 dX0_becomeProduct_54 (lv_at hl 6 rfl) ?_
    refine lv_aload_n cx.1 cx.2.1 dX0_becomeProduct_56 rfl (lv_at hl 0 rfl) ?_
    refine lv_iload cx.1 cx.2.1 dX0_becomeProduct_57 (lv_at hl 4 rfl) ?_
    refine z_ci cx hp (fun o' hx => zrunV (n := 4) (As := [.int (ii u4)]) (rest := [.int (ii v6)]) cx hp (mX0_columns F l g B h u0 u4 ru0 ru4 o' hx) 0 ru0 (by decide) rfl vw_X0_columns ml_X0_39 (by decide) rfl hl.1 rfl (Nat.le_of_ble_eq_true rfl) dX0_becomeProduct_59) hf (fun r9 h H locs rr9 hp hf => ?_)
    refine z_icmp_ge cx rv6 rr9 (tgt := 125) dX0_becomeProduct_62 (by decide) hf (fun _ hf => ?_) (fun _ hf => ?_)
    · refine lv_aload_n cx.1 cx.2.1 dX0_becomeProduct_65 rfl (lv_at hl 1 rfl) ?_
      refine lv_iload cx.1 cx.2.1 dX0_becomeProduct_66 (lv_at hl 4 rfl) ?_
      refine lv_iload cx.1 cx.2.1 dX0_becomeProduct_68 (lv_at hl 5 rfl) ?_
      refine lv_iload_n cx.1 cx.2.1 dX0_becomeProduct_70 rfl (lv_at hl 3 rfl) ?_
      refine z_idiv cx ru5 ru3 dX0_becomeProduct_71 hf (fun hf => ?_)
      refine lv_iload cx.1 cx.2.1 dX0_becomeProduct_72 (lv_at hl 6 rfl) ?_
      refine lv_iload_n cx.1 cx.2.1 dX0_becomeProduct_74 rfl (lv_at hl 3 rfl) ?_
      refine z_idiv cx rv6 ru3 dX0_becomeProduct_75 hf (fun hf => ?_)
      refine z_ci cx hp (fun o' hx => zrunV (n := 4) (As := [.int (ii u4), .int (ii (wdiv u5 u3)), .int (ii (wdiv v6 u3))]) (rest := []) cx hp (mX0_value F l g B h u1 u4 (wdiv u5 u3) (wdiv v6 u3) ru1 ru4 (rng_div _ _) (rng_div _ _) o' hx) 0 ru1 (by decide) rfl vw_X0_value ml_X0_99 (by decide) rfl hl.1 rfl (Nat.le_of_ble_eq_true rfl) dX0_becomeProduct_76) hf (fun r10 h H locs rr10 hp hf => ?_)
      refine lv_istore (lv' := [(7, .int (ii r10)), (0, .ref (B + u0)), (1, .ref (B + u1)), (2, .ref (B + u2)), (3, .int (ii u3)), (4, .int (ii u4)), (5, .int (ii u5)), (6, .int (ii v6))]) cx.1 cx.2.1 dX0_becomeProduct_79 hl (by decide) rfl (fun ls hl => ?_)
      refine lv_aload_n cx.1 cx.2.1 dX0_becomeProduct_81 rfl (lv_at hl 3 rfl) ?_
      refine lv_iload cx.1 cx.2.1 dX0_becomeProduct_82 (lv_at hl 5 rfl) ?_
      refine lv_iload cx.1 cx.2.1 dX0_becomeProduct_84 (lv_at hl 6 rfl) ?_
      refine lv_iload_n cx.1 cx.2.1 dX0_becomeProduct_86 rfl (lv_at hl 4 rfl) ?_
      refine z_irem cx ru5 ru3 dX0_becomeProduct_87 hf (fun hf => ?_)
      refine lv_iload cx.1 cx.2.1 dX0_becomeProduct_88 (lv_at hl 7 rfl) ?_
      refine lv_iload_n cx.1 cx.2.1 dX0_becomeProduct_90 rfl (lv_at hl 4 rfl) ?_
      refine z_irem cx rv6 ru3 dX0_becomeProduct_91 hf (fun hf => ?_)
      refine z_ci cx hp (fun o' hx => zrunV (n := 4) (As := [.int (ii u4), .int (ii (wrem u5 u3)), .int (ii (wrem v6 u3))]) (rest := []) cx hp (mX0_value F l g B h u2 u4 (wrem u5 u3) (wrem v6 u3) ru2 ru4 (rng_rem _ _) (rng_rem _ _) o' hx) 0 ru2 (by decide) rfl vw_X0_value ml_X0_99 (by decide) rfl hl.1 rfl (Nat.le_of_ble_eq_true rfl) dX0_becomeProduct_92) hf (fun r11 h H locs rr11 hp hf => ?_)
      refine lv_istore (lv' := [(8, .int (ii r11)), (7, .int (ii r10)), (0, .ref (B + u0)), (1, .ref (B + u1)), (2, .ref (B + u2)), (3, .int (ii u3)), (4, .int (ii u4)), (5, .int (ii u5)), (6, .int (ii v6))]) cx.1 cx.2.1 dX0_becomeProduct_95 hl (by decide) rfl (fun ls hl => ?_)
      refine lv_aload_n cx.1 cx.2.1 dX0_becomeProduct_97 rfl (lv_at hl 2 rfl) ?_
      refine z_gets cx hp (T := TX0) 0 5 (u0 + 3) rfl zin_0 (by decide) (by decide) ru0 rfl fl_X0_18 dX0_becomeProduct_98 ?_
      refine lv_aload_n cx.1 cx.2.1 dX0_becomeProduct_101 rfl (lv_at hl 2 rfl) ?_
      refine lv_iload cx.1 cx.2.1 dX0_becomeProduct_102 (lv_at hl 6 rfl) ?_
      refine lv_iload cx.1 cx.2.1 dX0_becomeProduct_104 (lv_at hl 7 rfl) ?_
      refine lv_iload cx.1 cx.2.1 dX0_becomeProduct_106 (lv_at hl 8 rfl) ?_
      refine z_ci cx hp (fun o' hx => zrunV (n := 4) (As := [.int (ii u4), .int (ii u5), .int (ii v6)]) (rest := [.ref (B + (u0 + 3))]) cx hp (mX0_spot F l g B h u0 u4 u5 v6 ru0 ru4 ru5 rv6 o' hx) 0 ru0 (by decide) rfl vw_X0_spot ml_X0_61 (by decide) rfl hl.1 rfl (Nat.le_of_ble_eq_true rfl) dX0_becomeProduct_108) hf (fun r12 h H locs rr12 hp hf => ?_)
      refine lv_iload cx.1 cx.2.1 dX0_becomeProduct_111 (lv_at hl 1 rfl) ?_
      refine lv_iload_n cx.1 cx.2.1 dX0_becomeProduct_113 rfl (lv_at hl 5 rfl) ?_
      refine z_imul cx dX0_becomeProduct_114 ?_
      refine lv_iload cx.1 cx.2.1 dX0_becomeProduct_115 (lv_at hl 0 rfl) ?_
      refine z_iadd cx dX0_becomeProduct_117 ?_
      refine z_iast cx hp (zs_0_5 u0 (kt_lt ru0 (by decide)) ru0) rr12 (rng_wr _) dX0_becomeProduct_118 hf (fun h H locs hp hf => ?_)
      refine z_iinc cx (fun x13 => [(6, .int (ii x13)), (8, .int (ii r11)), (7, .int (ii r10)), (0, .ref (B + u0)), (1, .ref (B + u1)), (2, .ref (B + u2)), (3, .int (ii u3)), (4, .int (ii u4)), (5, .int (ii u5))]) dX0_becomeProduct_119 hl (k := 8) rfl (by decide) (fun _ => rfl) hf (fun x13 rx13 hf ls hl => ?_)
      refine lv_goto (tgt := 54) cx.1 cx.2.1 dX0_becomeProduct_122 (by decide) ?_
      exact ih x13 h _ _ ls rx13 hp (lv_sub hl [3, 4, 5, 6, 7, 8, 0] rfl) hf
    · exact hk125 u5 h _ _ ls ru5 hp (lv_sub hl [0, 1, 2, 3, 4, 5] rfl) hf
def LX0_becomeProduct_40 (F : Nat) (u0 : Nat) (u1 : Nat) (u2 : Nat) (u3 : Int) (u4 : Int) (k131 : Int → HF → RO) : Nat → Int → HF → RO
  | 0, _, _ => none
  | n + 1, v5, h =>
    zbd (fX0_rows F u0 u4 h) fun r7 h =>
    if v5 < r7 then (
      zjn (fun (x125_5 : Int) (h : HF) => (
        zlet (wr (x125_5 + 1)) fun x8 =>
        LX0_becomeProduct_40 F u0 u1 u2 u3 u4 k131 n x8 h
      )) fun j125 =>
      LX0_becomeProduct_54 F u0 u1 u2 u3 u4 v5 j125 F 0 h
    ) else (
      k131 u4 h
    )
set_option maxHeartbeats 4000000 in
set_option maxRecDepth 100000 in
theorem wX0_becomeProduct_40 {p : Program} {l : Launch} {e : Env} {s : State} {m : MethodId} {args : Array Value} {below : List Frame} {meth : Method} {c : Code} {Q : State → Prop} {g : zG} {B : Nat} {o : Int × HF} (F : Nat) (cx : Cx p s m args meth c cX0_becomeProduct 9 RX0 none g B) (u0 : Nat) (ru0 : kt u0 = 3) (u1 : Nat) (ru1 : kt u1 = 3) (u2 : Nat) (ru2 : kt u2 = 3) (u3 : Int) (ru3 : rng u3) (u4 : Int) (ru4 : rng u4) (k131 : Int → HF → RO) (hk131 : ∀ (x4 : Int) (h : HF) (H : Heap) (locs : List Loc) (ls : Array Slot), rng x4 → Hp g B s h H locs → lv_has ls 9 [(0, .ref (B + u0)), (1, .ref (B + u1)), (2, .ref (B + u2)), (3, .int (ii u3)), (4, .int (ii x4))] → k131 x4 h = some o → W p l e (rmn 4) s m args below meth c H locs 0 0 Q (F0 m 131 ls [])) : ∀ (n : Nat) (v5 : Int) (h : HF) (H : Heap) (locs : List Loc) (ls : Array Slot), rng v5 → Hp g B s h H locs → lv_has ls 9 [(0, .ref (B + u0)), (1, .ref (B + u1)), (2, .ref (B + u2)), (3, .int (ii u3)), (4, .int (ii u4)), (5, .int (ii v5))] → LX0_becomeProduct_40 F u0 u1 u2 u3 u4 k131 n v5 h = some o → W p l e (rmn 4) s m args below meth c H locs 0 0 Q (F0 m 40 ls []) := by
  intro n
  induction n with
  | zero =>
    intro v5 h H locs ls rv5 hp hl hf
    cases hf
  | succ n ih =>
    intro v5 h H locs ls rv5 hp hl hf
    rw [LX0_becomeProduct_40] at hf
    refine lv_iload cx.1 cx.2.1 dX0_becomeProduct_40 (lv_at hl 5 rfl) ?_
    refine lv_aload_n cx.1 cx.2.1 dX0_becomeProduct_42 rfl (lv_at hl 0 rfl) ?_
    refine lv_iload cx.1 cx.2.1 dX0_becomeProduct_43 (lv_at hl 4 rfl) ?_
    refine z_ci cx hp (fun o' hx => zrunV (n := 4) (As := [.int (ii u4)]) (rest := [.int (ii v5)]) cx hp (mX0_rows F l g B h u0 u4 ru0 ru4 o' hx) 0 ru0 (by decide) rfl vw_X0_rows ml_X0_35 (by decide) rfl hl.1 rfl (Nat.le_of_ble_eq_true rfl) dX0_becomeProduct_45) hf (fun r7 h H locs rr7 hp hf => ?_)
    refine z_icmp_ge cx rv5 rr7 (tgt := 131) dX0_becomeProduct_48 (by decide) hf (fun _ hf => ?_) (fun _ hf => ?_)
    · refine z_iconst cx dX0_becomeProduct_51 ?_
      refine lv_istore (lv' := [(6, .int (ii 0)), (0, .ref (B + u0)), (1, .ref (B + u1)), (2, .ref (B + u2)), (3, .int (ii u3)), (4, .int (ii u4)), (5, .int (ii v5))]) cx.1 cx.2.1 dX0_becomeProduct_52 hl (by decide) rfl (fun ls hl => ?_)
      refine z_jn hf (fun j => ∀ (x125_5 : Int) (h : HF) (H : Heap) (locs : List Loc) (ls : Array Slot), rng x125_5 → Hp g B s h H locs → lv_has ls 9 [(0, .ref (B + u0)), (1, .ref (B + u1)), (2, .ref (B + u2)), (3, .int (ii u3)), (4, .int (ii u4)), (5, .int (ii x125_5))] → j x125_5 h = some o → W p l e (rmn 4) s m args below meth c H locs 0 0 Q (F0 m 125 ls [])) ?_ (fun j125 hj125 hf => ?_)
      · intro x125_5 h H locs ls rx125_5 hp hl hf
        refine z_iinc cx (fun x8 => [(5, .int (ii x8)), (0, .ref (B + u0)), (1, .ref (B + u1)), (2, .ref (B + u2)), (3, .int (ii u3)), (4, .int (ii u4))]) dX0_becomeProduct_125 hl (k := 5) rfl (by decide) (fun _ => rfl) hf (fun x8 rx8 hf ls hl => ?_)
        refine lv_goto (tgt := 40) cx.1 cx.2.1 dX0_becomeProduct_128 (by decide) ?_
        exact ih x8 h _ _ ls rx8 hp (lv_sub hl [1, 2, 3, 4, 5, 0] rfl) hf
      exact wX0_becomeProduct_54 F cx u0 ru0 u1 ru1 u2 ru2 u3 ru3 u4 ru4 v5 rv5 j125 hj125 F 0 h _ _ ls (by decide) hp (lv_sub hl [1, 2, 3, 4, 5, 6, 0] rfl) hf
    · exact hk131 u4 h _ _ ls ru4 hp (lv_sub hl [0, 1, 2, 3, 4] rfl) hf
def LX0_becomeProduct_28 (F : Nat) (u0 : Nat) (u1 : Nat) (u2 : Nat) (u3 : Int) (k137 : HF → RO) : Nat → Int → HF → RO
  | 0, _, _ => none
  | n + 1, v4, h =>
    zgf h u0 1 fun x5 =>
    if v4 < x5 then (
      zjn (fun (x131_4 : Int) (h : HF) => (
        zlet (wr (x131_4 + 1)) fun x6 =>
        LX0_becomeProduct_28 F u0 u1 u2 u3 k137 n x6 h
      )) fun j131 =>
      LX0_becomeProduct_40 F u0 u1 u2 u3 v4 j131 F 0 h
    ) else (
      k137  h
    )
set_option maxHeartbeats 4000000 in
set_option maxRecDepth 100000 in
theorem wX0_becomeProduct_28 {p : Program} {l : Launch} {e : Env} {s : State} {m : MethodId} {args : Array Value} {below : List Frame} {meth : Method} {c : Code} {Q : State → Prop} {g : zG} {B : Nat} {o : Int × HF} (F : Nat) (cx : Cx p s m args meth c cX0_becomeProduct 9 RX0 none g B) (u0 : Nat) (ru0 : kt u0 = 3) (u1 : Nat) (ru1 : kt u1 = 3) (u2 : Nat) (ru2 : kt u2 = 3) (u3 : Int) (ru3 : rng u3) (k137 : HF → RO) (hk137 : ∀  (h : HF) (H : Heap) (locs : List Loc) (ls : Array Slot), Hp g B s h H locs → lv_has ls 9 [] → k137  h = some o → W p l e (rmn 4) s m args below meth c H locs 0 0 Q (F0 m 137 ls [])) : ∀ (n : Nat) (v4 : Int) (h : HF) (H : Heap) (locs : List Loc) (ls : Array Slot), rng v4 → Hp g B s h H locs → lv_has ls 9 [(0, .ref (B + u0)), (1, .ref (B + u1)), (2, .ref (B + u2)), (3, .int (ii u3)), (4, .int (ii v4))] → LX0_becomeProduct_28 F u0 u1 u2 u3 k137 n v4 h = some o → W p l e (rmn 4) s m args below meth c H locs 0 0 Q (F0 m 28 ls []) := by
  intro n
  induction n with
  | zero =>
    intro v4 h H locs ls rv4 hp hl hf
    cases hf
  | succ n ih =>
    intro v4 h H locs ls rv4 hp hl hf
    rw [LX0_becomeProduct_28] at hf
    refine lv_iload cx.1 cx.2.1 dX0_becomeProduct_28 (lv_at hl 4 rfl) ?_
    refine lv_aload_n cx.1 cx.2.1 dX0_becomeProduct_30 rfl (lv_at hl 0 rfl) ?_
    refine z_geti cx hp (T := TX0) 0 1 rfl zin_0 (by decide) (by decide) ru0 rfl fl_X0_29 dX0_becomeProduct_31 hf (fun x5 rx5 hf => ?_)
    refine z_icmp_ge cx rv4 rx5 (tgt := 137) dX0_becomeProduct_34 (by decide) hf (fun _ hf => ?_) (fun _ hf => ?_)
    · refine z_iconst cx dX0_becomeProduct_37 ?_
      refine lv_istore (lv' := [(5, .int (ii 0)), (0, .ref (B + u0)), (1, .ref (B + u1)), (2, .ref (B + u2)), (3, .int (ii u3)), (4, .int (ii v4))]) cx.1 cx.2.1 dX0_becomeProduct_38 hl (by decide) rfl (fun ls hl => ?_)
      refine z_jn hf (fun j => ∀ (x131_4 : Int) (h : HF) (H : Heap) (locs : List Loc) (ls : Array Slot), rng x131_4 → Hp g B s h H locs → lv_has ls 9 [(0, .ref (B + u0)), (1, .ref (B + u1)), (2, .ref (B + u2)), (3, .int (ii u3)), (4, .int (ii x131_4))] → j x131_4 h = some o → W p l e (rmn 4) s m args below meth c H locs 0 0 Q (F0 m 131 ls [])) ?_ (fun j131 hj131 hf => ?_)
      · intro x131_4 h H locs ls rx131_4 hp hl hf
        refine z_iinc cx (fun x6 => [(4, .int (ii x6)), (0, .ref (B + u0)), (1, .ref (B + u1)), (2, .ref (B + u2)), (3, .int (ii u3))]) dX0_becomeProduct_131 hl (k := 4) rfl (by decide) (fun _ => rfl) hf (fun x6 rx6 hf ls hl => ?_)
        refine lv_goto (tgt := 28) cx.1 cx.2.1 dX0_becomeProduct_134 (by decide) ?_
        exact ih x6 h _ _ ls rx6 hp (lv_sub hl [1, 2, 3, 4, 0] rfl) hf
      exact wX0_becomeProduct_40 F cx u0 ru0 u1 ru1 u2 ru2 u3 ru3 v4 rv4 j131 hj131 F 0 h _ _ ls (by decide) hp (lv_sub hl [1, 2, 3, 4, 5, 0] rfl) hf
    · exact hk137  h _ _ ls  hp (lv_sub hl [] rfl) hf
def fX0_becomeProduct (F : Nat) (a0 : Nat) (a1 : Nat) (a2 : Nat) (h : HF) : RO :=
  zgf h a2 0 fun x1 =>
  if x1 < 1 then (
    some (0, h)
  ) else (
    zgf h a1 0 fun x2 =>
    zgf h a1 2 fun x3 =>
    zbd (fX0_shape F a0 (wr (x2 * x1)) x3 h) fun _ h =>
    zjn (fun  (h : HF) => (
      some (0, h)
    )) fun j137 =>
    LX0_becomeProduct_28 F a0 a1 a2 x1 j137 F 0 h
  )
set_option maxHeartbeats 4000000 in
set_option maxRecDepth 100000 in
theorem mX0_becomeProduct (F : Nat) (l : Launch) (g : zG) (B : Nat) (h : HF) (a0 : Nat) (a1 : Nat) (a2 : Nat) (ra0 : kt a0 = 3) (ra1 : kt a1 = 3) (ra2 : kt a2 = 3) : CTv l g B yX0_becomeProduct cX0_becomeProduct 9 4 [.ref (B + a0), .ref (B + a1), .ref (B + a2)] h (fX0_becomeProduct F a0 a1 a2 h) := by
  refine z_enterV (by decide) rfl (Nat.le_of_ble_eq_true rfl) ?_
  intro p e s m args below meth c ls o Q cx hp hl hf hQ
  have hl : lv_has ls 9 [(0, .ref (B + a0)), (1, .ref (B + a1)), (2, .ref (B + a2))] := hl
  unfold fX0_becomeProduct at hf
  refine lv_aload_n cx.1 cx.2.1 dX0_becomeProduct_0 rfl (lv_at hl 2 rfl) ?_
  refine z_geti cx hp (T := TX0) 0 0 rfl zin_0 (by decide) (by decide) ra2 rfl fl_X0_21 dX0_becomeProduct_1 hf (fun x1 rx1 hf => ?_)
  refine lv_istore_n (lv' := [(3, .int (ii x1)), (0, .ref (B + a0)), (1, .ref (B + a1)), (2, .ref (B + a2))]) cx.1 cx.2.1 dX0_becomeProduct_4 rfl hl (by decide) rfl (fun ls hl => ?_)
  refine lv_iload_n cx.1 cx.2.1 dX0_becomeProduct_5 rfl (lv_at hl 0 rfl) ?_
  refine z_iconst cx dX0_becomeProduct_6 ?_
  refine z_icmp_ge cx rx1 (by decide) (tgt := 11) dX0_becomeProduct_7 (by decide) hf (fun _ hf => ?_) (fun _ hf => ?_)
  · rw [hQ]; exact z_vret cx hp dX0_becomeProduct_10 hf
  · refine lv_aload_n cx.1 cx.2.1 dX0_becomeProduct_11 rfl (lv_at hl 1 rfl) ?_
    refine lv_aload_n cx.1 cx.2.1 dX0_becomeProduct_12 rfl (lv_at hl 2 rfl) ?_
    refine z_geti cx hp (T := TX0) 0 0 rfl zin_0 (by decide) (by decide) ra1 rfl fl_X0_21 dX0_becomeProduct_13 hf (fun x2 rx2 hf => ?_)
    refine lv_iload_n cx.1 cx.2.1 dX0_becomeProduct_16 rfl (lv_at hl 0 rfl) ?_
    refine z_imul cx dX0_becomeProduct_17 ?_
    refine lv_aload_n cx.1 cx.2.1 dX0_becomeProduct_18 rfl (lv_at hl 2 rfl) ?_
    refine z_geti cx hp (T := TX0) 0 2 rfl zin_0 (by decide) (by decide) ra1 rfl fl_X0_32 dX0_becomeProduct_19 hf (fun x3 rx3 hf => ?_)
    refine z_cv cx hp (fun o' hx => zrunV (n := 4) (As := [.int (ii (wr (x2 * x1))), .int (ii x3)]) (rest := []) cx hp (mX0_shape F l g B h a0 (wr (x2 * x1)) x3 ra0 (rng_wr _) rx3 o' hx) 0 ra0 (by decide) rfl vw_X0_shape ml_X0_112 (by decide) rfl hl.1 rfl (Nat.le_of_ble_eq_true rfl) dX0_becomeProduct_22) hf (fun _ h H locs hp hf => ?_)
    refine z_iconst cx dX0_becomeProduct_25 ?_
    refine lv_istore (lv' := [(4, .int (ii 0)), (3, .int (ii x1)), (0, .ref (B + a0)), (1, .ref (B + a1)), (2, .ref (B + a2))]) cx.1 cx.2.1 dX0_becomeProduct_26 hl (by decide) rfl (fun ls hl => ?_)
    refine z_jn hf (fun j => ∀  (h : HF) (H : Heap) (locs : List Loc) (ls : Array Slot), Hp g B s h H locs → lv_has ls 9 [] → j  h = some o → W p l e (rmn 4) s m args below meth c H locs 0 0 Q (F0 m 137 ls [])) ?_ (fun j137 hj137 hf => ?_)
    · intro  h H locs ls  hp hl hf
      rw [hQ]; exact z_vret cx hp dX0_becomeProduct_137 hf
    exact wX0_becomeProduct_28 F cx a0 ra0 a1 ra1 a2 ra2 x1 rx1 j137 hj137 F 0 h _ _ ls (by decide) hp (lv_sub hl [2, 3, 4, 1, 0] rfl) hf
theorem dX2_clash_0 : decode cX2_clash 0 = .ok (.iconst 1, 1) := by decide +kernel
theorem dX2_clash_1 : decode cX2_clash 1 = .ok (.istore_n 1, 1) := by decide +kernel
theorem dX2_clash_2 : decode cX2_clash 2 = .ok (.iload_n 1, 1) := by decide +kernel
theorem dX2_clash_3 : decode cX2_clash 3 = .ok (.aload_n 0, 1) := by decide +kernel
theorem dX2_clash_4 : decode cX2_clash 4 = .ok (.getfield 21, 3) := by decide +kernel
theorem dX2_clash_7 : decode cX2_clash 7 = .ok (.getfield 39, 3) := by decide +kernel
theorem dX2_clash_10 : decode cX2_clash 10 = .ok (.if_icmp .ge 61, 3) := by decide +kernel
theorem dX2_clash_13 : decode cX2_clash 13 = .ok (.aload_n 0, 1) := by decide +kernel
theorem dX2_clash_14 : decode cX2_clash 14 = .ok (.getfield 15, 3) := by decide +kernel
theorem dX2_clash_17 : decode cX2_clash 17 = .ok (.iload_n 1, 1) := by decide +kernel
theorem dX2_clash_18 : decode cX2_clash 18 = .ok (.iaload, 1) := by decide +kernel
theorem dX2_clash_19 : decode cX2_clash 19 = .ok (.iload_n 1, 1) := by decide +kernel
theorem dX2_clash_20 : decode cX2_clash 20 = .ok (.if_icmp .ne 6, 3) := by decide +kernel
theorem dX2_clash_23 : decode cX2_clash 23 = .ok (.goto 42, 3) := by decide +kernel
theorem dX2_clash_26 : decode cX2_clash 26 = .ok (.iconst 0, 1) := by decide +kernel
theorem dX2_clash_27 : decode cX2_clash 27 = .ok (.istore_n 2, 1) := by decide +kernel
theorem dX2_clash_28 : decode cX2_clash 28 = .ok (.iload_n 2, 1) := by decide +kernel
theorem dX2_clash_29 : decode cX2_clash 29 = .ok (.aload_n 0, 1) := by decide +kernel
theorem dX2_clash_30 : decode cX2_clash 30 = .ok (.getfield 21, 3) := by decide +kernel
theorem dX2_clash_33 : decode cX2_clash 33 = .ok (.getfield 52, 3) := by decide +kernel
theorem dX2_clash_36 : decode cX2_clash 36 = .ok (.if_icmp .ge 29, 3) := by decide +kernel
theorem dX2_clash_39 : decode cX2_clash 39 = .ok (.aload_n 0, 1) := by decide +kernel
theorem dX2_clash_40 : decode cX2_clash 40 = .ok (.iload_n 2, 1) := by decide +kernel
theorem dX2_clash_41 : decode cX2_clash 41 = .ok (.iload_n 1, 1) := by decide +kernel
theorem dX2_clash_42 : decode cX2_clash 42 = .ok (.aload_n 0, 1) := by decide +kernel
theorem dX2_clash_43 : decode cX2_clash 43 = .ok (.getfield 15, 3) := by decide +kernel
theorem dX2_clash_46 : decode cX2_clash 46 = .ok (.iload_n 1, 1) := by decide +kernel
theorem dX2_clash_47 : decode cX2_clash 47 = .ok (.iaload, 1) := by decide +kernel
theorem dX2_clash_48 : decode cX2_clash 48 = .ok (.invokevirtual 55, 3) := by decide +kernel
theorem dX2_clash_51 : decode cX2_clash 51 = .ok (.istore_n 3, 1) := by decide +kernel
theorem dX2_clash_52 : decode cX2_clash 52 = .ok (.iload_n 3, 1) := by decide +kernel
theorem dX2_clash_53 : decode cX2_clash 53 = .ok (.iconst (-1), 1) := by decide +kernel
theorem dX2_clash_54 : decode cX2_clash 54 = .ok (.if_icmp .eq 5, 3) := by decide +kernel
theorem dX2_clash_57 : decode cX2_clash 57 = .ok (.iload_n 3, 1) := by decide +kernel
theorem dX2_clash_58 : decode cX2_clash 58 = .ok (.ireturn, 1) := by decide +kernel
theorem dX2_clash_59 : decode cX2_clash 59 = .ok (.iinc 2 1, 3) := by decide +kernel
theorem dX2_clash_62 : decode cX2_clash 62 = .ok (.goto (-34), 3) := by decide +kernel
theorem dX2_clash_65 : decode cX2_clash 65 = .ok (.iinc 1 1, 3) := by decide +kernel
theorem dX2_clash_68 : decode cX2_clash 68 = .ok (.goto (-66), 3) := by decide +kernel
theorem dX2_clash_71 : decode cX2_clash 71 = .ok (.iconst (-1), 1) := by decide +kernel
theorem dX2_clash_72 : decode cX2_clash 72 = .ok (.ireturn, 1) := by decide +kernel
def LX2_clash_28 (F : Nat) (u0 : Nat) (u1 : Int) (k65 : Int → HF → RO) (k57 : Int → HF → RO) : Nat → Int → HF → RO
  | 0, _, _ => none
  | n + 1, v2, h =>
    zgd h u0 4 fun x5 =>
    zgf h x5 1 fun x6 =>
    if v2 < x6 then (
      zrd h (u0 + 2) u1 fun x7 =>
      zbd (fX2_clashOf F u0 v2 u1 x7 h) fun r8 h =>
      if r8 = (-1) then (
        zlet (wr (v2 + 1)) fun x9 =>
        LX2_clash_28 F u0 u1 k65 k57 n x9 h
      ) else (
        k57 r8 h
      )
    ) else (
      k65 u1 h
    )
set_option maxHeartbeats 4000000 in
set_option maxRecDepth 100000 in
theorem wX2_clash_28 {p : Program} {l : Launch} {e : Env} {s : State} {m : MethodId} {args : Array Value} {below : List Frame} {meth : Method} {c : Code} {Q : State → Prop} {g : zG} {B : Nat} {o : Int × HF} (F : Nat) (cx : Cx p s m args meth c cX2_clash 4 RX2 (some .int) g B) (u0 : Nat) (ru0 : kt u0 = 5) (u1 : Int) (ru1 : rng u1) (k65 : Int → HF → RO) (hk65 : ∀ (x1 : Int) (h : HF) (H : Heap) (locs : List Loc) (ls : Array Slot), rng x1 → Hp g B s h H locs → lv_has ls 4 [(0, .ref (B + u0)), (1, .int (ii x1))] → k65 x1 h = some o → W p l e (rmn 3) s m args below meth c H locs 0 0 Q (F0 m 65 ls [])) (k57 : Int → HF → RO) (hk57 : ∀ (x3 : Int) (h : HF) (H : Heap) (locs : List Loc) (ls : Array Slot), rng x3 → Hp g B s h H locs → lv_has ls 4 [(3, .int (ii x3))] → k57 x3 h = some o → W p l e (rmn 3) s m args below meth c H locs 0 0 Q (F0 m 57 ls [])) : ∀ (n : Nat) (v2 : Int) (h : HF) (H : Heap) (locs : List Loc) (ls : Array Slot), rng v2 → Hp g B s h H locs → lv_has ls 4 [(0, .ref (B + u0)), (1, .int (ii u1)), (2, .int (ii v2))] → LX2_clash_28 F u0 u1 k65 k57 n v2 h = some o → W p l e (rmn 3) s m args below meth c H locs 0 0 Q (F0 m 28 ls []) := by
  intro n
  induction n with
  | zero =>
    intro v2 h H locs ls rv2 hp hl hf
    cases hf
  | succ n ih =>
    intro v2 h H locs ls rv2 hp hl hf
    rw [LX2_clash_28] at hf
    refine lv_iload_n cx.1 cx.2.1 dX2_clash_28 rfl (lv_at hl 2 rfl) ?_
    refine lv_aload_n cx.1 cx.2.1 dX2_clash_29 rfl (lv_at hl 0 rfl) ?_
    refine z_getd cx hp (T := TX2) 2 4 3 rfl zin_2 (by decide) (by decide) ru0 rfl fl_X2_21 dX2_clash_30 hf (fun x5 rx5 hf => ?_)
    refine z_geti cx hp (T := TX0) 0 1 rfl zin_0 (by decide) (by decide) rx5 rfl fl_X2_52 dX2_clash_33 hf (fun x6 rx6 hf => ?_)
    refine z_icmp_ge cx rv2 rx6 (tgt := 65) dX2_clash_36 (by decide) hf (fun _ hf => ?_) (fun _ hf => ?_)
    · refine lv_aload_n cx.1 cx.2.1 dX2_clash_39 rfl (lv_at hl 0 rfl) ?_
      refine lv_iload_n cx.1 cx.2.1 dX2_clash_40 rfl (lv_at hl 2 rfl) ?_
      refine lv_iload_n cx.1 cx.2.1 dX2_clash_41 rfl (lv_at hl 1 rfl) ?_
      refine lv_aload_n cx.1 cx.2.1 dX2_clash_42 rfl (lv_at hl 0 rfl) ?_
      refine z_gets cx hp (T := TX2) 2 2 (u0 + 2) rfl zin_2 (by decide) (by decide) ru0 rfl fl_X2_15 dX2_clash_43 ?_
      refine lv_iload_n cx.1 cx.2.1 dX2_clash_46 rfl (lv_at hl 1 rfl) ?_
      refine z_iald cx hp (zs_2_2 u0 (kt_lt ru0 (by decide)) ru0) ru1 dX2_clash_47 hf (fun x7 rx7 hf => ?_)
      refine z_ci cx hp (fun o' hx => zrunV (n := 3) (As := [.int (ii v2), .int (ii u1), .int (ii x7)]) (rest := []) cx hp (mX2_clashOf F l g B h u0 v2 u1 x7 ru0 rv2 ru1 rx7 o' hx) 2 ru0 (by decide) rfl vw_X2_clashOf ml_X2_55 (by decide) rfl hl.1 rfl (Nat.le_of_ble_eq_true rfl) dX2_clash_48) hf (fun r8 h H locs rr8 hp hf => ?_)
      refine lv_istore_n (lv' := [(3, .int (ii r8)), (0, .ref (B + u0)), (1, .int (ii u1)), (2, .int (ii v2))]) cx.1 cx.2.1 dX2_clash_51 rfl hl (by decide) rfl (fun ls hl => ?_)
      refine lv_iload_n cx.1 cx.2.1 dX2_clash_52 rfl (lv_at hl 0 rfl) ?_
      refine z_iconst cx dX2_clash_53 ?_
      refine z_icmp_eq cx rr8 (by decide) (tgt := 59) dX2_clash_54 (by decide) hf (fun _ hf => ?_) (fun _ hf => ?_)
      · refine z_iinc cx (fun x9 => [(2, .int (ii x9)), (3, .int (ii r8)), (0, .ref (B + u0)), (1, .int (ii u1))]) dX2_clash_59 hl (k := 3) rfl (by decide) (fun _ => rfl) hf (fun x9 rx9 hf ls hl => ?_)
        refine lv_goto (tgt := 28) cx.1 cx.2.1 dX2_clash_62 (by decide) ?_
        exact ih x9 h _ _ ls rx9 hp (lv_sub hl [2, 3, 0] rfl) hf
      · exact hk57 r8 h _ _ ls rr8 hp (lv_sub hl [0] rfl) hf
    · exact hk65 u1 h _ _ ls ru1 hp (lv_sub hl [0, 1] rfl) hf
def LX2_clash_2 (F : Nat) (u0 : Nat) (k71 : HF → RO) (k57 : Int → HF → RO) : Nat → Int → HF → RO
  | 0, _, _ => none
  | n + 1, v1, h =>
    zgd h u0 4 fun x1 =>
    zgf h x1 0 fun x2 =>
    if v1 < x2 then (
      zrd h (u0 + 2) v1 fun x3 =>
      zjn (fun (x65_1 : Int) (h : HF) => (
        zlet (wr (x65_1 + 1)) fun x4 =>
        LX2_clash_2 F u0 k71 k57 n x4 h
      )) fun j65 =>
      if x3 = v1 then (
        j65 v1 h
      ) else (
        LX2_clash_28 F u0 v1 j65 k57 F 0 h
      )
    ) else (
      k71  h
    )
set_option maxHeartbeats 4000000 in
set_option maxRecDepth 100000 in
theorem wX2_clash_2 {p : Program} {l : Launch} {e : Env} {s : State} {m : MethodId} {args : Array Value} {below : List Frame} {meth : Method} {c : Code} {Q : State → Prop} {g : zG} {B : Nat} {o : Int × HF} (F : Nat) (cx : Cx p s m args meth c cX2_clash 4 RX2 (some .int) g B) (u0 : Nat) (ru0 : kt u0 = 5) (k71 : HF → RO) (hk71 : ∀  (h : HF) (H : Heap) (locs : List Loc) (ls : Array Slot), Hp g B s h H locs → lv_has ls 4 [] → k71  h = some o → W p l e (rmn 3) s m args below meth c H locs 0 0 Q (F0 m 71 ls [])) (k57 : Int → HF → RO) (hk57 : ∀ (x3 : Int) (h : HF) (H : Heap) (locs : List Loc) (ls : Array Slot), rng x3 → Hp g B s h H locs → lv_has ls 4 [(3, .int (ii x3))] → k57 x3 h = some o → W p l e (rmn 3) s m args below meth c H locs 0 0 Q (F0 m 57 ls [])) : ∀ (n : Nat) (v1 : Int) (h : HF) (H : Heap) (locs : List Loc) (ls : Array Slot), rng v1 → Hp g B s h H locs → lv_has ls 4 [(0, .ref (B + u0)), (1, .int (ii v1))] → LX2_clash_2 F u0 k71 k57 n v1 h = some o → W p l e (rmn 3) s m args below meth c H locs 0 0 Q (F0 m 2 ls []) := by
  intro n
  induction n with
  | zero =>
    intro v1 h H locs ls rv1 hp hl hf
    cases hf
  | succ n ih =>
    intro v1 h H locs ls rv1 hp hl hf
    rw [LX2_clash_2] at hf
    refine lv_iload_n cx.1 cx.2.1 dX2_clash_2 rfl (lv_at hl 1 rfl) ?_
    refine lv_aload_n cx.1 cx.2.1 dX2_clash_3 rfl (lv_at hl 0 rfl) ?_
    refine z_getd cx hp (T := TX2) 2 4 3 rfl zin_2 (by decide) (by decide) ru0 rfl fl_X2_21 dX2_clash_4 hf (fun x1 rx1 hf => ?_)
    refine z_geti cx hp (T := TX0) 0 0 rfl zin_0 (by decide) (by decide) rx1 rfl fl_X2_39 dX2_clash_7 hf (fun x2 rx2 hf => ?_)
    refine z_icmp_ge cx rv1 rx2 (tgt := 71) dX2_clash_10 (by decide) hf (fun _ hf => ?_) (fun _ hf => ?_)
    · refine lv_aload_n cx.1 cx.2.1 dX2_clash_13 rfl (lv_at hl 0 rfl) ?_
      refine z_gets cx hp (T := TX2) 2 2 (u0 + 2) rfl zin_2 (by decide) (by decide) ru0 rfl fl_X2_15 dX2_clash_14 ?_
      refine lv_iload_n cx.1 cx.2.1 dX2_clash_17 rfl (lv_at hl 1 rfl) ?_
      refine z_iald cx hp (zs_2_2 u0 (kt_lt ru0 (by decide)) ru0) rv1 dX2_clash_18 hf (fun x3 rx3 hf => ?_)
      refine lv_iload_n cx.1 cx.2.1 dX2_clash_19 rfl (lv_at hl 1 rfl) ?_
      refine z_jn hf (fun j => ∀ (x65_1 : Int) (h : HF) (H : Heap) (locs : List Loc) (ls : Array Slot), rng x65_1 → Hp g B s h H locs → lv_has ls 4 [(0, .ref (B + u0)), (1, .int (ii x65_1))] → j x65_1 h = some o → W p l e (rmn 3) s m args below meth c H locs 0 0 Q (F0 m 65 ls [])) ?_ (fun j65 hj65 hf => ?_)
      · intro x65_1 h H locs ls rx65_1 hp hl hf
        refine z_iinc cx (fun x4 => [(1, .int (ii x4)), (0, .ref (B + u0))]) dX2_clash_65 hl (k := 1) rfl (by decide) (fun _ => rfl) hf (fun x4 rx4 hf ls hl => ?_)
        refine lv_goto (tgt := 2) cx.1 cx.2.1 dX2_clash_68 (by decide) ?_
        exact ih x4 h _ _ ls rx4 hp (lv_sub hl [1, 0] rfl) hf
      refine z_icmp_ne cx rx3 rv1 (tgt := 26) dX2_clash_20 (by decide) hf (fun _ hf => ?_) (fun _ hf => ?_)
      · refine lv_goto (tgt := 65) cx.1 cx.2.1 dX2_clash_23 (by decide) ?_
        exact hj65 v1 h _ _ ls rv1 hp (lv_sub hl [0, 1] rfl) hf
      · refine z_iconst cx dX2_clash_26 ?_
        refine lv_istore_n (lv' := [(2, .int (ii 0)), (0, .ref (B + u0)), (1, .int (ii v1))]) cx.1 cx.2.1 dX2_clash_27 rfl hl (by decide) rfl (fun ls hl => ?_)
        exact wX2_clash_28 F cx u0 ru0 v1 rv1 j65 hj65 k57 hk57 F 0 h _ _ ls (by decide) hp (lv_sub hl [1, 2, 0] rfl) hf
    · exact hk71  h _ _ ls  hp (lv_sub hl [] rfl) hf
def fX2_clash (F : Nat) (a0 : Nat) (h : HF) : RO :=
  zjn (fun  (h : HF) => (
    some ((-1), h)
  )) fun j71 =>
  zjn (fun (x57_3 : Int) (h : HF) => (
    some (x57_3, h)
  )) fun j57 =>
  LX2_clash_2 F a0 j71 j57 F 1 h
set_option maxHeartbeats 4000000 in
set_option maxRecDepth 100000 in
theorem mX2_clash (F : Nat) (l : Launch) (g : zG) (B : Nat) (h : HF) (a0 : Nat) (ra0 : kt a0 = 5) : CTi l g B yX2_clash cX2_clash 4 (some .int) 3 [.ref (B + a0)] h (fX2_clash F a0 h) := by
  refine z_enterI (by decide) rfl (Nat.le_of_ble_eq_true rfl) ?_
  intro p e s m args below meth c ls o Q cx hp hl hf hQ
  have hl : lv_has ls 4 [(0, .ref (B + a0))] := hl
  unfold fX2_clash at hf
  refine z_iconst cx dX2_clash_0 ?_
  refine lv_istore_n (lv' := [(1, .int (ii 1)), (0, .ref (B + a0))]) cx.1 cx.2.1 dX2_clash_1 rfl hl (by decide) rfl (fun ls hl => ?_)
  refine z_jn hf (fun j => ∀  (h : HF) (H : Heap) (locs : List Loc) (ls : Array Slot), Hp g B s h H locs → lv_has ls 4 [] → j  h = some o → W p l e (rmn 3) s m args below meth c H locs 0 0 Q (F0 m 71 ls [])) ?_ (fun j71 hj71 hf => ?_)
  · intro  h H locs ls  hp hl hf
    refine z_iconst cx dX2_clash_71 ?_
    rw [hQ]; exact z_iret cx hp (by decide) dX2_clash_72 hf
  refine z_jn hf (fun j => ∀ (x57_3 : Int) (h : HF) (H : Heap) (locs : List Loc) (ls : Array Slot), rng x57_3 → Hp g B s h H locs → lv_has ls 4 [(3, .int (ii x57_3))] → j x57_3 h = some o → W p l e (rmn 3) s m args below meth c H locs 0 0 Q (F0 m 57 ls [])) ?_ (fun j57 hj57 hf => ?_)
  · intro x57_3 h H locs ls rx57_3 hp hl hf
    refine lv_iload_n cx.1 cx.2.1 dX2_clash_57 rfl (lv_at hl 0 rfl) ?_
    rw [hQ]; exact z_iret cx hp rx57_3 dX2_clash_58 hf
  exact wX2_clash_2 F cx a0 ra0 j71 hj71 j57 hj57 F 1 h _ _ ls (by decide) hp (lv_sub hl [1, 0] rfl) hf
theorem dX2_choose_0 : decode cX2_choose 0 = .ok (.aload_n 0, 1) := by decide +kernel
theorem dX2_choose_1 : decode cX2_choose 1 = .ok (.aload_n 0, 1) := by decide +kernel
theorem dX2_choose_2 : decode cX2_choose 2 = .ok (.getfield 9, 3) := by decide +kernel
theorem dX2_choose_5 : decode cX2_choose 5 = .ok (.iload_n 1, 1) := by decide +kernel
theorem dX2_choose_6 : decode cX2_choose 6 = .ok (.iaload, 1) := by decide +kernel
theorem dX2_choose_7 : decode cX2_choose 7 = .ok (.aload_n 0, 1) := by decide +kernel
theorem dX2_choose_8 : decode cX2_choose 8 = .ok (.getfield 15, 3) := by decide +kernel
theorem dX2_choose_11 : decode cX2_choose 11 = .ok (.invokevirtual 69, 3) := by decide +kernel
theorem dX2_choose_14 : decode cX2_choose 14 = .ok (.return_, 1) := by decide +kernel
def fX2_choose (F : Nat) (a0 : Nat) (a1 : Int) (h : HF) : RO :=
  zrd h (a0 + 1) a1 fun x1 =>
  zbd (fX2_decode F a0 x1 (a0 + 2) h) fun _ h =>
  some (0, h)
set_option maxHeartbeats 4000000 in
set_option maxRecDepth 100000 in
theorem mX2_choose (F : Nat) (l : Launch) (g : zG) (B : Nat) (h : HF) (a0 : Nat) (a1 : Int) (ra0 : kt a0 = 5) (ra1 : rng a1) : CTv l g B yX2_choose cX2_choose 2 1 [.ref (B + a0), .int (ii a1)] h (fX2_choose F a0 a1 h) := by
  refine z_enterV (by decide) rfl (Nat.le_of_ble_eq_true rfl) ?_
  intro p e s m args below meth c ls o Q cx hp hl hf hQ
  have hl : lv_has ls 2 [(0, .ref (B + a0)), (1, .int (ii a1))] := hl
  unfold fX2_choose at hf
  refine lv_aload_n cx.1 cx.2.1 dX2_choose_0 rfl (lv_at hl 0 rfl) ?_
  refine lv_aload_n cx.1 cx.2.1 dX2_choose_1 rfl (lv_at hl 0 rfl) ?_
  refine z_gets cx hp (T := TX2) 2 0 (a0 + 1) rfl zin_2 (by decide) (by decide) ra0 rfl fl_X2_9 dX2_choose_2 ?_
  refine lv_iload_n cx.1 cx.2.1 dX2_choose_5 rfl (lv_at hl 1 rfl) ?_
  refine z_iald cx hp (zs_2_0 a0 (kt_lt ra0 (by decide)) ra0) ra1 dX2_choose_6 hf (fun x1 rx1 hf => ?_)
  refine lv_aload_n cx.1 cx.2.1 dX2_choose_7 rfl (lv_at hl 0 rfl) ?_
  refine z_gets cx hp (T := TX2) 2 2 (a0 + 2) rfl zin_2 (by decide) (by decide) ra0 rfl fl_X2_15 dX2_choose_8 ?_
  refine z_cv cx hp (fun o' hx => zrunV (n := 1) (As := [.int (ii x1), .ref (B + (a0 + 2))]) (rest := []) cx hp (mX2_decode F l g B h a0 x1 (a0 + 2) ra0 rx1 (zs_2_2 a0 (kt_lt ra0 (by decide)) ra0) o' hx) 2 ra0 (by decide) rfl vw_X2_decode ml_X2_69 (by decide) rfl hl.1 rfl (Nat.le_of_ble_eq_true rfl) dX2_choose_11) hf (fun _ h H locs hp hf => ?_)
  rw [hQ]; exact z_vret cx hp dX2_choose_14 hf
theorem dX2_number_0 : decode cX2_number 0 = .ok (.aload_n 0, 1) := by decide +kernel
theorem dX2_number_1 : decode cX2_number 1 = .ok (.getfield 15, 3) := by decide +kernel
theorem dX2_number_4 : decode cX2_number 4 = .ok (.aload_n 0, 1) := by decide +kernel
theorem dX2_number_5 : decode cX2_number 5 = .ok (.getfield 21, 3) := by decide +kernel
theorem dX2_number_8 : decode cX2_number 8 = .ok (.getfield 39, 3) := by decide +kernel
theorem dX2_number_11 : decode cX2_number 11 = .ok (.invokestatic 44, 3) := by decide +kernel
theorem dX2_number_14 : decode cX2_number 14 = .ok (.istore_n 1, 1) := by decide +kernel
theorem dX2_number_15 : decode cX2_number 15 = .ok (.iconst 0, 1) := by decide +kernel
theorem dX2_number_16 : decode cX2_number 16 = .ok (.istore_n 2, 1) := by decide +kernel
theorem dX2_number_17 : decode cX2_number 17 = .ok (.iload_n 2, 1) := by decide +kernel
theorem dX2_number_18 : decode cX2_number 18 = .ok (.aload_n 0, 1) := by decide +kernel
theorem dX2_number_19 : decode cX2_number 19 = .ok (.getfield 25, 3) := by decide +kernel
theorem dX2_number_22 : decode cX2_number 22 = .ok (.if_icmp .ge 21, 3) := by decide +kernel
theorem dX2_number_25 : decode cX2_number 25 = .ok (.aload_n 0, 1) := by decide +kernel
theorem dX2_number_26 : decode cX2_number 26 = .ok (.getfield 9, 3) := by decide +kernel
theorem dX2_number_29 : decode cX2_number 29 = .ok (.iload_n 2, 1) := by decide +kernel
theorem dX2_number_30 : decode cX2_number 30 = .ok (.iaload, 1) := by decide +kernel
theorem dX2_number_31 : decode cX2_number 31 = .ok (.iload_n 1, 1) := by decide +kernel
theorem dX2_number_32 : decode cX2_number 32 = .ok (.if_icmp .ne 5, 3) := by decide +kernel
theorem dX2_number_35 : decode cX2_number 35 = .ok (.iload_n 2, 1) := by decide +kernel
theorem dX2_number_36 : decode cX2_number 36 = .ok (.ireturn, 1) := by decide +kernel
theorem dX2_number_37 : decode cX2_number 37 = .ok (.iinc 2 1, 3) := by decide +kernel
theorem dX2_number_40 : decode cX2_number 40 = .ok (.goto (-23), 3) := by decide +kernel
theorem dX2_number_43 : decode cX2_number 43 = .ok (.iconst (-1), 1) := by decide +kernel
theorem dX2_number_44 : decode cX2_number 44 = .ok (.ireturn, 1) := by decide +kernel
def LX2_number_17 (F : Nat) (u0 : Nat) (u1 : Int) (k43 : HF → RO) (k35 : Int → HF → RO) : Nat → Int → HF → RO
  | 0, _, _ => none
  | n + 1, v2, h =>
    zgf h u0 1 fun x4 =>
    if v2 < x4 then (
      zrd h (u0 + 1) v2 fun x5 =>
      if x5 = u1 then (
        k35 v2 h
      ) else (
        zlet (wr (v2 + 1)) fun x6 =>
        LX2_number_17 F u0 u1 k43 k35 n x6 h
      )
    ) else (
      k43  h
    )
set_option maxHeartbeats 4000000 in
set_option maxRecDepth 100000 in
theorem wX2_number_17 {p : Program} {l : Launch} {e : Env} {s : State} {m : MethodId} {args : Array Value} {below : List Frame} {meth : Method} {c : Code} {Q : State → Prop} {g : zG} {B : Nat} {o : Int × HF} (F : Nat) (cx : Cx p s m args meth c cX2_number 3 RX2 (some .int) g B) (u0 : Nat) (ru0 : kt u0 = 5) (u1 : Int) (ru1 : rng u1) (k43 : HF → RO) (hk43 : ∀  (h : HF) (H : Heap) (locs : List Loc) (ls : Array Slot), Hp g B s h H locs → lv_has ls 3 [] → k43  h = some o → W p l e (rmn 1) s m args below meth c H locs 0 0 Q (F0 m 43 ls [])) (k35 : Int → HF → RO) (hk35 : ∀ (x2 : Int) (h : HF) (H : Heap) (locs : List Loc) (ls : Array Slot), rng x2 → Hp g B s h H locs → lv_has ls 3 [(2, .int (ii x2))] → k35 x2 h = some o → W p l e (rmn 1) s m args below meth c H locs 0 0 Q (F0 m 35 ls [])) : ∀ (n : Nat) (v2 : Int) (h : HF) (H : Heap) (locs : List Loc) (ls : Array Slot), rng v2 → Hp g B s h H locs → lv_has ls 3 [(0, .ref (B + u0)), (1, .int (ii u1)), (2, .int (ii v2))] → LX2_number_17 F u0 u1 k43 k35 n v2 h = some o → W p l e (rmn 1) s m args below meth c H locs 0 0 Q (F0 m 17 ls []) := by
  intro n
  induction n with
  | zero =>
    intro v2 h H locs ls rv2 hp hl hf
    cases hf
  | succ n ih =>
    intro v2 h H locs ls rv2 hp hl hf
    rw [LX2_number_17] at hf
    refine lv_iload_n cx.1 cx.2.1 dX2_number_17 rfl (lv_at hl 2 rfl) ?_
    refine lv_aload_n cx.1 cx.2.1 dX2_number_18 rfl (lv_at hl 0 rfl) ?_
    refine z_geti cx hp (T := TX2) 2 1 rfl zin_2 (by decide) (by decide) ru0 rfl fl_X2_25 dX2_number_19 hf (fun x4 rx4 hf => ?_)
    refine z_icmp_ge cx rv2 rx4 (tgt := 43) dX2_number_22 (by decide) hf (fun _ hf => ?_) (fun _ hf => ?_)
    · refine lv_aload_n cx.1 cx.2.1 dX2_number_25 rfl (lv_at hl 0 rfl) ?_
      refine z_gets cx hp (T := TX2) 2 0 (u0 + 1) rfl zin_2 (by decide) (by decide) ru0 rfl fl_X2_9 dX2_number_26 ?_
      refine lv_iload_n cx.1 cx.2.1 dX2_number_29 rfl (lv_at hl 2 rfl) ?_
      refine z_iald cx hp (zs_2_0 u0 (kt_lt ru0 (by decide)) ru0) rv2 dX2_number_30 hf (fun x5 rx5 hf => ?_)
      refine lv_iload_n cx.1 cx.2.1 dX2_number_31 rfl (lv_at hl 1 rfl) ?_
      refine z_icmp_ne cx rx5 ru1 (tgt := 37) dX2_number_32 (by decide) hf (fun _ hf => ?_) (fun _ hf => ?_)
      · exact hk35 v2 h _ _ ls rv2 hp (lv_sub hl [2] rfl) hf
      · refine z_iinc cx (fun x6 => [(2, .int (ii x6)), (0, .ref (B + u0)), (1, .int (ii u1))]) dX2_number_37 hl (k := 2) rfl (by decide) (fun _ => rfl) hf (fun x6 rx6 hf ls hl => ?_)
        refine lv_goto (tgt := 17) cx.1 cx.2.1 dX2_number_40 (by decide) ?_
        exact ih x6 h _ _ ls rx6 hp (lv_sub hl [1, 2, 0] rfl) hf
    · exact hk43  h _ _ ls  hp (lv_sub hl [] rfl) hf
def fX2_number (F : Nat) (a0 : Nat) (h : HF) : RO :=
  zgd h a0 4 fun x1 =>
  zgf h x1 0 fun x2 =>
  zbd (fX11_encode F (a0 + 2) x2 h) fun r3 h =>
  zjn (fun  (h : HF) => (
    some ((-1), h)
  )) fun j43 =>
  zjn (fun (x35_2 : Int) (h : HF) => (
    some (x35_2, h)
  )) fun j35 =>
  LX2_number_17 F a0 r3 j43 j35 F 0 h
set_option maxHeartbeats 4000000 in
set_option maxRecDepth 100000 in
theorem mX2_number (F : Nat) (l : Launch) (g : zG) (B : Nat) (h : HF) (a0 : Nat) (ra0 : kt a0 = 5) : CTi l g B yX2_number cX2_number 3 (some .int) 1 [.ref (B + a0)] h (fX2_number F a0 h) := by
  refine z_enterI (by decide) rfl (Nat.le_of_ble_eq_true rfl) ?_
  intro p e s m args below meth c ls o Q cx hp hl hf hQ
  have hl : lv_has ls 3 [(0, .ref (B + a0))] := hl
  unfold fX2_number at hf
  refine lv_aload_n cx.1 cx.2.1 dX2_number_0 rfl (lv_at hl 0 rfl) ?_
  refine z_gets cx hp (T := TX2) 2 2 (a0 + 2) rfl zin_2 (by decide) (by decide) ra0 rfl fl_X2_15 dX2_number_1 ?_
  refine lv_aload_n cx.1 cx.2.1 dX2_number_4 rfl (lv_at hl 0 rfl) ?_
  refine z_getd cx hp (T := TX2) 2 4 3 rfl zin_2 (by decide) (by decide) ra0 rfl fl_X2_21 dX2_number_5 hf (fun x1 rx1 hf => ?_)
  refine z_geti cx hp (T := TX0) 0 0 rfl zin_0 (by decide) (by decide) rx1 rfl fl_X2_39 dX2_number_8 hf (fun x2 rx2 hf => ?_)
  refine z_ci cx hp (fun o' hx => zrunSN (n := 1) (As := [.ref (B + (a0 + 2)), .int (ii x2)]) (rest := []) cx hp (mX11_encode F l g B h (a0 + 2) x2 (zs_2_2 a0 (kt_lt ra0 (by decide)) ra0) rx2 o' hx) sw_X11_encode mn_X2_44 (by decide) rfl hl.1 rfl (Nat.le_of_ble_eq_true rfl) dX2_number_11) hf (fun r3 h H locs rr3 hp hf => ?_)
  refine lv_istore_n (lv' := [(1, .int (ii r3)), (0, .ref (B + a0))]) cx.1 cx.2.1 dX2_number_14 rfl hl (by decide) rfl (fun ls hl => ?_)
  refine z_iconst cx dX2_number_15 ?_
  refine lv_istore_n (lv' := [(2, .int (ii 0)), (1, .int (ii r3)), (0, .ref (B + a0))]) cx.1 cx.2.1 dX2_number_16 rfl hl (by decide) rfl (fun ls hl => ?_)
  refine z_jn hf (fun j => ∀  (h : HF) (H : Heap) (locs : List Loc) (ls : Array Slot), Hp g B s h H locs → lv_has ls 3 [] → j  h = some o → W p l e (rmn 1) s m args below meth c H locs 0 0 Q (F0 m 43 ls [])) ?_ (fun j43 hj43 hf => ?_)
  · intro  h H locs ls  hp hl hf
    refine z_iconst cx dX2_number_43 ?_
    rw [hQ]; exact z_iret cx hp (by decide) dX2_number_44 hf
  refine z_jn hf (fun j => ∀ (x35_2 : Int) (h : HF) (H : Heap) (locs : List Loc) (ls : Array Slot), rng x35_2 → Hp g B s h H locs → lv_has ls 3 [(2, .int (ii x35_2))] → j x35_2 h = some o → W p l e (rmn 1) s m args below meth c H locs 0 0 Q (F0 m 35 ls [])) ?_ (fun j35 hj35 hf => ?_)
  · intro x35_2 h H locs ls rx35_2 hp hl hf
    refine lv_iload_n cx.1 cx.2.1 dX2_number_35 rfl (lv_at hl 0 rfl) ?_
    rw [hQ]; exact z_iret cx hp rx35_2 dX2_number_36 hf
  exact wX2_number_17 F cx a0 ra0 r3 rr3 j43 hj43 j35 hj35 F 0 h _ _ ls (by decide) hp (lv_sub hl [2, 1, 0] rfl) hf
theorem dX2_joining_0 : decode cX2_joining 0 = .ok (.iconst 0, 1) := by decide +kernel
theorem dX2_joining_1 : decode cX2_joining 1 = .ok (.istore_n 3, 1) := by decide +kernel
theorem dX2_joining_2 : decode cX2_joining 2 = .ok (.iload_n 3, 1) := by decide +kernel
theorem dX2_joining_3 : decode cX2_joining 3 = .ok (.aload_n 0, 1) := by decide +kernel
theorem dX2_joining_4 : decode cX2_joining 4 = .ok (.getfield 21, 3) := by decide +kernel
theorem dX2_joining_7 : decode cX2_joining 7 = .ok (.getfield 39, 3) := by decide +kernel
theorem dX2_joining_10 : decode cX2_joining 10 = .ok (.if_icmp .ge 16, 3) := by decide +kernel
theorem dX2_joining_13 : decode cX2_joining 13 = .ok (.aload_n 0, 1) := by decide +kernel
theorem dX2_joining_14 : decode cX2_joining 14 = .ok (.getfield 15, 3) := by decide +kernel
theorem dX2_joining_17 : decode cX2_joining 17 = .ok (.iload_n 3, 1) := by decide +kernel
theorem dX2_joining_18 : decode cX2_joining 18 = .ok (.iload_n 3, 1) := by decide +kernel
theorem dX2_joining_19 : decode cX2_joining 19 = .ok (.iastore, 1) := by decide +kernel
theorem dX2_joining_20 : decode cX2_joining 20 = .ok (.iinc 3 1, 3) := by decide +kernel
theorem dX2_joining_23 : decode cX2_joining 23 = .ok (.goto (-21), 3) := by decide +kernel
theorem dX2_joining_26 : decode cX2_joining 26 = .ok (.aload_n 0, 1) := by decide +kernel
theorem dX2_joining_27 : decode cX2_joining 27 = .ok (.iload_n 1, 1) := by decide +kernel
theorem dX2_joining_28 : decode cX2_joining 28 = .ok (.iload_n 2, 1) := by decide +kernel
theorem dX2_joining_29 : decode cX2_joining 29 = .ok (.invokevirtual 82, 3) := by decide +kernel
theorem dX2_joining_32 : decode cX2_joining 32 = .ok (.iconst 0, 1) := by decide +kernel
theorem dX2_joining_33 : decode cX2_joining 33 = .ok (.istore_n 3, 1) := by decide +kernel
theorem dX2_joining_34 : decode cX2_joining 34 = .ok (.iload_n 3, 1) := by decide +kernel
theorem dX2_joining_35 : decode cX2_joining 35 = .ok (.bipush 7, 2) := by decide +kernel
theorem dX2_joining_37 : decode cX2_joining 37 = .ok (.if_icmp .ge 38, 3) := by decide +kernel
theorem dX2_joining_40 : decode cX2_joining 40 = .ok (.aload_n 0, 1) := by decide +kernel
theorem dX2_joining_41 : decode cX2_joining 41 = .ok (.invokevirtual 35, 3) := by decide +kernel
theorem dX2_joining_44 : decode cX2_joining 44 = .ok (.istore 4, 2) := by decide +kernel
theorem dX2_joining_46 : decode cX2_joining 46 = .ok (.iload 4, 2) := by decide +kernel
theorem dX2_joining_48 : decode cX2_joining 48 = .ok (.iconst (-1), 1) := by decide +kernel
theorem dX2_joining_49 : decode cX2_joining 49 = .ok (.if_icmp .ne 6, 3) := by decide +kernel
theorem dX2_joining_52 : decode cX2_joining 52 = .ok (.goto 23, 3) := by decide +kernel
theorem dX2_joining_55 : decode cX2_joining 55 = .ok (.aload_n 0, 1) := by decide +kernel
theorem dX2_joining_56 : decode cX2_joining 56 = .ok (.iload 4, 2) := by decide +kernel
theorem dX2_joining_58 : decode cX2_joining 58 = .ok (.bipush 7, 2) := by decide +kernel
theorem dX2_joining_60 : decode cX2_joining 60 = .ok (.idiv, 1) := by decide +kernel
theorem dX2_joining_61 : decode cX2_joining 61 = .ok (.iload 4, 2) := by decide +kernel
theorem dX2_joining_63 : decode cX2_joining 63 = .ok (.bipush 7, 2) := by decide +kernel
theorem dX2_joining_65 : decode cX2_joining 65 = .ok (.irem, 1) := by decide +kernel
theorem dX2_joining_66 : decode cX2_joining 66 = .ok (.invokevirtual 82, 3) := by decide +kernel
theorem dX2_joining_69 : decode cX2_joining 69 = .ok (.iinc 3 1, 3) := by decide +kernel
theorem dX2_joining_72 : decode cX2_joining 72 = .ok (.goto (-38), 3) := by decide +kernel
theorem dX2_joining_75 : decode cX2_joining 75 = .ok (.aload_n 0, 1) := by decide +kernel
theorem dX2_joining_76 : decode cX2_joining 76 = .ok (.invokevirtual 86, 3) := by decide +kernel
theorem dX2_joining_79 : decode cX2_joining 79 = .ok (.ireturn, 1) := by decide +kernel
def LX2_joining_34 (F : Nat) (u0 : Nat) (k75 : HF → RO) (k52 : HF → RO) : Nat → Int → HF → RO
  | 0, _, _ => none
  | n + 1, v3, h =>
    if v3 < 7 then (
      zbd (fX2_clash F u0 h) fun r3 h =>
      if r3 = (-1) then (
        k52  h
      ) else (
        zdv 7 <|
        zdv 7 <|
        zbd (fX2_join F u0 (wdiv r3 7) (wrem r3 7) h) fun _ h =>
        zlet (wr (v3 + 1)) fun x5 =>
        LX2_joining_34 F u0 k75 k52 n x5 h
      )
    ) else (
      k75  h
    )
set_option maxHeartbeats 4000000 in
set_option maxRecDepth 100000 in
theorem wX2_joining_34 {p : Program} {l : Launch} {e : Env} {s : State} {m : MethodId} {args : Array Value} {below : List Frame} {meth : Method} {c : Code} {Q : State → Prop} {g : zG} {B : Nat} {o : Int × HF} (F : Nat) (cx : Cx p s m args meth c cX2_joining 5 RX2 (some .int) g B) (u0 : Nat) (ru0 : kt u0 = 5) (k75 : HF → RO) (hk75 : ∀  (h : HF) (H : Heap) (locs : List Loc) (ls : Array Slot), Hp g B s h H locs → lv_has ls 5 [(0, .ref (B + u0))] → k75  h = some o → W p l e (rmn 4) s m args below meth c H locs 0 0 Q (F0 m 75 ls [])) (k52 : HF → RO) (hk52 : ∀  (h : HF) (H : Heap) (locs : List Loc) (ls : Array Slot), Hp g B s h H locs → lv_has ls 5 [(0, .ref (B + u0))] → k52  h = some o → W p l e (rmn 4) s m args below meth c H locs 0 0 Q (F0 m 52 ls [])) : ∀ (n : Nat) (v3 : Int) (h : HF) (H : Heap) (locs : List Loc) (ls : Array Slot), rng v3 → Hp g B s h H locs → lv_has ls 5 [(0, .ref (B + u0)), (3, .int (ii v3))] → LX2_joining_34 F u0 k75 k52 n v3 h = some o → W p l e (rmn 4) s m args below meth c H locs 0 0 Q (F0 m 34 ls []) := by
  intro n
  induction n with
  | zero =>
    intro v3 h H locs ls rv3 hp hl hf
    cases hf
  | succ n ih =>
    intro v3 h H locs ls rv3 hp hl hf
    rw [LX2_joining_34] at hf
    refine lv_iload_n cx.1 cx.2.1 dX2_joining_34 rfl (lv_at hl 1 rfl) ?_
    refine z_bipush cx (by decide) dX2_joining_35 ?_
    refine z_icmp_ge cx rv3 (by decide) (tgt := 75) dX2_joining_37 (by decide) hf (fun _ hf => ?_) (fun _ hf => ?_)
    · refine lv_aload_n cx.1 cx.2.1 dX2_joining_40 rfl (lv_at hl 0 rfl) ?_
      refine z_ci cx hp (fun o' hx => zrunV (n := 4) (As := []) (rest := []) cx hp (mX2_clash F l g B h u0 ru0 o' hx) 2 ru0 (by decide) rfl vw_X2_clash ml_X2_35 (by decide) rfl hl.1 rfl (Nat.le_of_ble_eq_true rfl) dX2_joining_41) hf (fun r3 h H locs rr3 hp hf => ?_)
      refine lv_istore (lv' := [(4, .int (ii r3)), (0, .ref (B + u0)), (3, .int (ii v3))]) cx.1 cx.2.1 dX2_joining_44 hl (by decide) rfl (fun ls hl => ?_)
      refine lv_iload cx.1 cx.2.1 dX2_joining_46 (lv_at hl 0 rfl) ?_
      refine z_iconst cx dX2_joining_48 ?_
      refine z_icmp_ne cx rr3 (by decide) (tgt := 55) dX2_joining_49 (by decide) hf (fun _ hf => ?_) (fun _ hf => ?_)
      · exact hk52  h _ _ ls  hp (lv_sub hl [1] rfl) hf
      · refine lv_aload_n cx.1 cx.2.1 dX2_joining_55 rfl (lv_at hl 1 rfl) ?_
        refine lv_iload cx.1 cx.2.1 dX2_joining_56 (lv_at hl 0 rfl) ?_
        refine z_bipush cx (by decide) dX2_joining_58 ?_
        refine z_idiv cx rr3 (by decide) dX2_joining_60 hf (fun hf => ?_)
        refine lv_iload cx.1 cx.2.1 dX2_joining_61 (lv_at hl 0 rfl) ?_
        refine z_bipush cx (by decide) dX2_joining_63 ?_
        refine z_irem cx rr3 (by decide) dX2_joining_65 hf (fun hf => ?_)
        refine z_cv cx hp (fun o' hx => zrunV (n := 4) (As := [.int (ii (wdiv r3 7)), .int (ii (wrem r3 7))]) (rest := []) cx hp (mX2_join F l g B h u0 (wdiv r3 7) (wrem r3 7) ru0 (rng_div _ _) (rng_rem _ _) o' hx) 2 ru0 (by decide) rfl vw_X2_join ml_X2_82 (by decide) rfl hl.1 rfl (Nat.le_of_ble_eq_true rfl) dX2_joining_66) hf (fun _ h H locs hp hf => ?_)
        refine z_iinc cx (fun x5 => [(3, .int (ii x5)), (4, .int (ii r3)), (0, .ref (B + u0))]) dX2_joining_69 hl (k := 2) rfl (by decide) (fun _ => rfl) hf (fun x5 rx5 hf ls hl => ?_)
        refine lv_goto (tgt := 34) cx.1 cx.2.1 dX2_joining_72 (by decide) ?_
        exact ih x5 h _ _ ls rx5 hp (lv_sub hl [2, 0] rfl) hf
    · exact hk75  h _ _ ls  hp (lv_sub hl [0] rfl) hf
def LX2_joining_2 (F : Nat) (u0 : Nat) (u1 : Int) (u2 : Int) (k26 : HF → RO) : Nat → Int → HF → RO
  | 0, _, _ => none
  | n + 1, v3, h =>
    zgd h u0 4 fun x6 =>
    zgf h x6 0 fun x7 =>
    if v3 < x7 then (
      zwr h (u0 + 2) v3 v3 fun h =>
      zlet (wr (v3 + 1)) fun x8 =>
      LX2_joining_2 F u0 u1 u2 k26 n x8 h
    ) else (
      k26  h
    )
set_option maxHeartbeats 4000000 in
set_option maxRecDepth 100000 in
theorem wX2_joining_2 {p : Program} {l : Launch} {e : Env} {s : State} {m : MethodId} {args : Array Value} {below : List Frame} {meth : Method} {c : Code} {Q : State → Prop} {g : zG} {B : Nat} {o : Int × HF} (F : Nat) (cx : Cx p s m args meth c cX2_joining 5 RX2 (some .int) g B) (u0 : Nat) (ru0 : kt u0 = 5) (u1 : Int) (ru1 : rng u1) (u2 : Int) (ru2 : rng u2) (k26 : HF → RO) (hk26 : ∀  (h : HF) (H : Heap) (locs : List Loc) (ls : Array Slot), Hp g B s h H locs → lv_has ls 5 [(0, .ref (B + u0)), (1, .int (ii u1)), (2, .int (ii u2))] → k26  h = some o → W p l e (rmn 4) s m args below meth c H locs 0 0 Q (F0 m 26 ls [])) : ∀ (n : Nat) (v3 : Int) (h : HF) (H : Heap) (locs : List Loc) (ls : Array Slot), rng v3 → Hp g B s h H locs → lv_has ls 5 [(0, .ref (B + u0)), (1, .int (ii u1)), (2, .int (ii u2)), (3, .int (ii v3))] → LX2_joining_2 F u0 u1 u2 k26 n v3 h = some o → W p l e (rmn 4) s m args below meth c H locs 0 0 Q (F0 m 2 ls []) := by
  intro n
  induction n with
  | zero =>
    intro v3 h H locs ls rv3 hp hl hf
    cases hf
  | succ n ih =>
    intro v3 h H locs ls rv3 hp hl hf
    rw [LX2_joining_2] at hf
    refine lv_iload_n cx.1 cx.2.1 dX2_joining_2 rfl (lv_at hl 3 rfl) ?_
    refine lv_aload_n cx.1 cx.2.1 dX2_joining_3 rfl (lv_at hl 0 rfl) ?_
    refine z_getd cx hp (T := TX2) 2 4 3 rfl zin_2 (by decide) (by decide) ru0 rfl fl_X2_21 dX2_joining_4 hf (fun x6 rx6 hf => ?_)
    refine z_geti cx hp (T := TX0) 0 0 rfl zin_0 (by decide) (by decide) rx6 rfl fl_X2_39 dX2_joining_7 hf (fun x7 rx7 hf => ?_)
    refine z_icmp_ge cx rv3 rx7 (tgt := 26) dX2_joining_10 (by decide) hf (fun _ hf => ?_) (fun _ hf => ?_)
    · refine lv_aload_n cx.1 cx.2.1 dX2_joining_13 rfl (lv_at hl 0 rfl) ?_
      refine z_gets cx hp (T := TX2) 2 2 (u0 + 2) rfl zin_2 (by decide) (by decide) ru0 rfl fl_X2_15 dX2_joining_14 ?_
      refine lv_iload_n cx.1 cx.2.1 dX2_joining_17 rfl (lv_at hl 3 rfl) ?_
      refine lv_iload_n cx.1 cx.2.1 dX2_joining_18 rfl (lv_at hl 3 rfl) ?_
      refine z_iast cx hp (zs_2_2 u0 (kt_lt ru0 (by decide)) ru0) rv3 rv3 dX2_joining_19 hf (fun h H locs hp hf => ?_)
      refine z_iinc cx (fun x8 => [(3, .int (ii x8)), (0, .ref (B + u0)), (1, .int (ii u1)), (2, .int (ii u2))]) dX2_joining_20 hl (k := 3) rfl (by decide) (fun _ => rfl) hf (fun x8 rx8 hf ls hl => ?_)
      refine lv_goto (tgt := 2) cx.1 cx.2.1 dX2_joining_23 (by decide) ?_
      exact ih x8 h _ _ ls rx8 hp (lv_sub hl [1, 2, 3, 0] rfl) hf
    · exact hk26  h _ _ ls  hp (lv_sub hl [0, 1, 2] rfl) hf
def fX2_joining (F : Nat) (a0 : Nat) (a1 : Int) (a2 : Int) (h : HF) : RO :=
  zjn (fun  (h : HF) => (
    zbd (fX2_join F a0 a1 a2 h) fun _ h =>
    zjn (fun  (h : HF) => (
      zbd (fX2_number F a0 h) fun r2 h =>
      some (r2, h)
    )) fun j75 =>
    zjn (fun  (h : HF) => (
      j75  h
    )) fun j52 =>
    LX2_joining_34 F a0 j75 j52 F 0 h
  )) fun j26 =>
  LX2_joining_2 F a0 a1 a2 j26 F 0 h
set_option maxHeartbeats 4000000 in
set_option maxRecDepth 100000 in
theorem mX2_joining (F : Nat) (l : Launch) (g : zG) (B : Nat) (h : HF) (a0 : Nat) (a1 : Int) (a2 : Int) (ra0 : kt a0 = 5) (ra1 : rng a1) (ra2 : rng a2) : CTi l g B yX2_joining cX2_joining 5 (some .int) 4 [.ref (B + a0), .int (ii a1), .int (ii a2)] h (fX2_joining F a0 a1 a2 h) := by
  refine z_enterI (by decide) rfl (Nat.le_of_ble_eq_true rfl) ?_
  intro p e s m args below meth c ls o Q cx hp hl hf hQ
  have hl : lv_has ls 5 [(0, .ref (B + a0)), (1, .int (ii a1)), (2, .int (ii a2))] := hl
  unfold fX2_joining at hf
  refine z_iconst cx dX2_joining_0 ?_
  refine lv_istore_n (lv' := [(3, .int (ii 0)), (0, .ref (B + a0)), (1, .int (ii a1)), (2, .int (ii a2))]) cx.1 cx.2.1 dX2_joining_1 rfl hl (by decide) rfl (fun ls hl => ?_)
  refine z_jn hf (fun j => ∀  (h : HF) (H : Heap) (locs : List Loc) (ls : Array Slot), Hp g B s h H locs → lv_has ls 5 [(0, .ref (B + a0)), (1, .int (ii a1)), (2, .int (ii a2))] → j  h = some o → W p l e (rmn 4) s m args below meth c H locs 0 0 Q (F0 m 26 ls [])) ?_ (fun j26 hj26 hf => ?_)
  · intro  h H locs ls  hp hl hf
    refine lv_aload_n cx.1 cx.2.1 dX2_joining_26 rfl (lv_at hl 0 rfl) ?_
    refine lv_iload_n cx.1 cx.2.1 dX2_joining_27 rfl (lv_at hl 1 rfl) ?_
    refine lv_iload_n cx.1 cx.2.1 dX2_joining_28 rfl (lv_at hl 2 rfl) ?_
    refine z_cv cx hp (fun o' hx => zrunV (n := 4) (As := [.int (ii a1), .int (ii a2)]) (rest := []) cx hp (mX2_join F l g B h a0 a1 a2 ra0 ra1 ra2 o' hx) 2 ra0 (by decide) rfl vw_X2_join ml_X2_82 (by decide) rfl hl.1 rfl (Nat.le_of_ble_eq_true rfl) dX2_joining_29) hf (fun _ h H locs hp hf => ?_)
    refine z_iconst cx dX2_joining_32 ?_
    refine lv_istore_n (lv' := [(3, .int (ii 0)), (0, .ref (B + a0)), (1, .int (ii a1)), (2, .int (ii a2))]) cx.1 cx.2.1 dX2_joining_33 rfl hl (by decide) rfl (fun ls hl => ?_)
    refine z_jn hf (fun j => ∀  (h : HF) (H : Heap) (locs : List Loc) (ls : Array Slot), Hp g B s h H locs → lv_has ls 5 [(0, .ref (B + a0))] → j  h = some o → W p l e (rmn 4) s m args below meth c H locs 0 0 Q (F0 m 75 ls [])) ?_ (fun j75 hj75 hf => ?_)
    · intro  h H locs ls  hp hl hf
      refine lv_aload_n cx.1 cx.2.1 dX2_joining_75 rfl (lv_at hl 0 rfl) ?_
      refine z_ci cx hp (fun o' hx => zrunV (n := 4) (As := []) (rest := []) cx hp (mX2_number F l g B h a0 ra0 o' hx) 2 ra0 (by decide) rfl vw_X2_number ml_X2_86 (by decide) rfl hl.1 rfl (Nat.le_of_ble_eq_true rfl) dX2_joining_76) hf (fun r2 h H locs rr2 hp hf => ?_)
      rw [hQ]; exact z_iret cx hp rr2 dX2_joining_79 hf
    refine z_jn hf (fun j => ∀  (h : HF) (H : Heap) (locs : List Loc) (ls : Array Slot), Hp g B s h H locs → lv_has ls 5 [(0, .ref (B + a0))] → j  h = some o → W p l e (rmn 4) s m args below meth c H locs 0 0 Q (F0 m 52 ls [])) ?_ (fun j52 hj52 hf => ?_)
    · intro  h H locs ls  hp hl hf
      refine lv_goto (tgt := 75) cx.1 cx.2.1 dX2_joining_52 (by decide) ?_
      exact hj75  h _ _ ls  hp (lv_sub hl [0] rfl) hf
    exact wX2_joining_34 F cx a0 ra0 j75 hj75 j52 hj52 F 0 h _ _ ls (by decide) hp (lv_sub hl [1, 0] rfl) hf
  exact wX2_joining_2 F cx a0 ra0 a1 ra1 a2 ra2 j26 hj26 F 0 h _ _ ls (by decide) hp (lv_sub hl [1, 2, 3, 0] rfl) hf
theorem dX2_above_0 : decode cX2_above 0 = .ok (.aload_n 0, 1) := by decide +kernel
theorem dX2_above_1 : decode cX2_above 1 = .ok (.iload_n 1, 1) := by decide +kernel
theorem dX2_above_2 : decode cX2_above 2 = .ok (.invokevirtual 89, 3) := by decide +kernel
theorem dX2_above_5 : decode cX2_above 5 = .ok (.aload_n 0, 1) := by decide +kernel
theorem dX2_above_6 : decode cX2_above 6 = .ok (.aload_n 0, 1) := by decide +kernel
theorem dX2_above_7 : decode cX2_above 7 = .ok (.getfield 9, 3) := by decide +kernel
theorem dX2_above_10 : decode cX2_above 10 = .ok (.iload_n 2, 1) := by decide +kernel
theorem dX2_above_11 : decode cX2_above 11 = .ok (.iaload, 1) := by decide +kernel
theorem dX2_above_12 : decode cX2_above 12 = .ok (.aload_n 0, 1) := by decide +kernel
theorem dX2_above_13 : decode cX2_above 13 = .ok (.getfield 18, 3) := by decide +kernel
theorem dX2_above_16 : decode cX2_above 16 = .ok (.invokevirtual 69, 3) := by decide +kernel
theorem dX2_above_19 : decode cX2_above 19 = .ok (.iconst 0, 1) := by decide +kernel
theorem dX2_above_20 : decode cX2_above 20 = .ok (.istore_n 3, 1) := by decide +kernel
theorem dX2_above_21 : decode cX2_above 21 = .ok (.iload_n 3, 1) := by decide +kernel
theorem dX2_above_22 : decode cX2_above 22 = .ok (.aload_n 0, 1) := by decide +kernel
theorem dX2_above_23 : decode cX2_above 23 = .ok (.getfield 21, 3) := by decide +kernel
theorem dX2_above_26 : decode cX2_above 26 = .ok (.getfield 39, 3) := by decide +kernel
theorem dX2_above_29 : decode cX2_above 29 = .ok (.if_icmp .ge 20, 3) := by decide +kernel
theorem dX2_above_32 : decode cX2_above 32 = .ok (.aload_n 0, 1) := by decide +kernel
theorem dX2_above_33 : decode cX2_above 33 = .ok (.iload_n 3, 1) := by decide +kernel
theorem dX2_above_34 : decode cX2_above 34 = .ok (.aload_n 0, 1) := by decide +kernel
theorem dX2_above_35 : decode cX2_above 35 = .ok (.getfield 18, 3) := by decide +kernel
theorem dX2_above_38 : decode cX2_above 38 = .ok (.iload_n 3, 1) := by decide +kernel
theorem dX2_above_39 : decode cX2_above 39 = .ok (.iaload, 1) := by decide +kernel
theorem dX2_above_40 : decode cX2_above 40 = .ok (.invokevirtual 82, 3) := by decide +kernel
theorem dX2_above_43 : decode cX2_above 43 = .ok (.iinc 3 1, 3) := by decide +kernel
theorem dX2_above_46 : decode cX2_above 46 = .ok (.goto (-25), 3) := by decide +kernel
theorem dX2_above_49 : decode cX2_above 49 = .ok (.aload_n 0, 1) := by decide +kernel
theorem dX2_above_50 : decode cX2_above 50 = .ok (.invokevirtual 86, 3) := by decide +kernel
theorem dX2_above_53 : decode cX2_above 53 = .ok (.ireturn, 1) := by decide +kernel
def LX2_above_21 (F : Nat) (u0 : Nat) (k49 : HF → RO) : Nat → Int → HF → RO
  | 0, _, _ => none
  | n + 1, v3, h =>
    zgd h u0 4 fun x5 =>
    zgf h x5 0 fun x6 =>
    if v3 < x6 then (
      zrd h (u0 + 3) v3 fun x7 =>
      zbd (fX2_join F u0 v3 x7 h) fun _ h =>
      zlet (wr (v3 + 1)) fun x9 =>
      LX2_above_21 F u0 k49 n x9 h
    ) else (
      k49  h
    )
set_option maxHeartbeats 4000000 in
set_option maxRecDepth 100000 in
theorem wX2_above_21 {p : Program} {l : Launch} {e : Env} {s : State} {m : MethodId} {args : Array Value} {below : List Frame} {meth : Method} {c : Code} {Q : State → Prop} {g : zG} {B : Nat} {o : Int × HF} (F : Nat) (cx : Cx p s m args meth c cX2_above 4 RX2 (some .int) g B) (u0 : Nat) (ru0 : kt u0 = 5) (k49 : HF → RO) (hk49 : ∀  (h : HF) (H : Heap) (locs : List Loc) (ls : Array Slot), Hp g B s h H locs → lv_has ls 4 [(0, .ref (B + u0))] → k49  h = some o → W p l e (rmn 2) s m args below meth c H locs 0 0 Q (F0 m 49 ls [])) : ∀ (n : Nat) (v3 : Int) (h : HF) (H : Heap) (locs : List Loc) (ls : Array Slot), rng v3 → Hp g B s h H locs → lv_has ls 4 [(0, .ref (B + u0)), (3, .int (ii v3))] → LX2_above_21 F u0 k49 n v3 h = some o → W p l e (rmn 2) s m args below meth c H locs 0 0 Q (F0 m 21 ls []) := by
  intro n
  induction n with
  | zero =>
    intro v3 h H locs ls rv3 hp hl hf
    cases hf
  | succ n ih =>
    intro v3 h H locs ls rv3 hp hl hf
    rw [LX2_above_21] at hf
    refine lv_iload_n cx.1 cx.2.1 dX2_above_21 rfl (lv_at hl 1 rfl) ?_
    refine lv_aload_n cx.1 cx.2.1 dX2_above_22 rfl (lv_at hl 0 rfl) ?_
    refine z_getd cx hp (T := TX2) 2 4 3 rfl zin_2 (by decide) (by decide) ru0 rfl fl_X2_21 dX2_above_23 hf (fun x5 rx5 hf => ?_)
    refine z_geti cx hp (T := TX0) 0 0 rfl zin_0 (by decide) (by decide) rx5 rfl fl_X2_39 dX2_above_26 hf (fun x6 rx6 hf => ?_)
    refine z_icmp_ge cx rv3 rx6 (tgt := 49) dX2_above_29 (by decide) hf (fun _ hf => ?_) (fun _ hf => ?_)
    · refine lv_aload_n cx.1 cx.2.1 dX2_above_32 rfl (lv_at hl 0 rfl) ?_
      refine lv_iload_n cx.1 cx.2.1 dX2_above_33 rfl (lv_at hl 1 rfl) ?_
      refine lv_aload_n cx.1 cx.2.1 dX2_above_34 rfl (lv_at hl 0 rfl) ?_
      refine z_gets cx hp (T := TX2) 2 3 (u0 + 3) rfl zin_2 (by decide) (by decide) ru0 rfl fl_X2_18 dX2_above_35 ?_
      refine lv_iload_n cx.1 cx.2.1 dX2_above_38 rfl (lv_at hl 1 rfl) ?_
      refine z_iald cx hp (zs_2_3 u0 (kt_lt ru0 (by decide)) ru0) rv3 dX2_above_39 hf (fun x7 rx7 hf => ?_)
      refine z_cv cx hp (fun o' hx => zrunV (n := 2) (As := [.int (ii v3), .int (ii x7)]) (rest := []) cx hp (mX2_join F l g B h u0 v3 x7 ru0 rv3 rx7 o' hx) 2 ru0 (by decide) rfl vw_X2_join ml_X2_82 (by decide) rfl hl.1 rfl (Nat.le_of_ble_eq_true rfl) dX2_above_40) hf (fun _ h H locs hp hf => ?_)
      refine z_iinc cx (fun x9 => [(3, .int (ii x9)), (0, .ref (B + u0))]) dX2_above_43 hl (k := 1) rfl (by decide) (fun _ => rfl) hf (fun x9 rx9 hf ls hl => ?_)
      refine lv_goto (tgt := 21) cx.1 cx.2.1 dX2_above_46 (by decide) ?_
      exact ih x9 h _ _ ls rx9 hp (lv_sub hl [1, 0] rfl) hf
    · exact hk49  h _ _ ls  hp (lv_sub hl [0] rfl) hf
def fX2_above (F : Nat) (a0 : Nat) (a1 : Int) (a2 : Int) (h : HF) : RO :=
  zbd (fX2_choose F a0 a1 h) fun _ h =>
  zrd h (a0 + 1) a2 fun x2 =>
  zbd (fX2_decode F a0 x2 (a0 + 3) h) fun _ h =>
  zjn (fun  (h : HF) => (
    zbd (fX2_number F a0 h) fun r4 h =>
    some (r4, h)
  )) fun j49 =>
  LX2_above_21 F a0 j49 F 0 h
set_option maxHeartbeats 4000000 in
set_option maxRecDepth 100000 in
theorem mX2_above (F : Nat) (l : Launch) (g : zG) (B : Nat) (h : HF) (a0 : Nat) (a1 : Int) (a2 : Int) (ra0 : kt a0 = 5) (ra1 : rng a1) (ra2 : rng a2) : CTi l g B yX2_above cX2_above 4 (some .int) 2 [.ref (B + a0), .int (ii a1), .int (ii a2)] h (fX2_above F a0 a1 a2 h) := by
  refine z_enterI (by decide) rfl (Nat.le_of_ble_eq_true rfl) ?_
  intro p e s m args below meth c ls o Q cx hp hl hf hQ
  have hl : lv_has ls 4 [(0, .ref (B + a0)), (1, .int (ii a1)), (2, .int (ii a2))] := hl
  unfold fX2_above at hf
  refine lv_aload_n cx.1 cx.2.1 dX2_above_0 rfl (lv_at hl 0 rfl) ?_
  refine lv_iload_n cx.1 cx.2.1 dX2_above_1 rfl (lv_at hl 1 rfl) ?_
  refine z_cv cx hp (fun o' hx => zrunV (n := 2) (As := [.int (ii a1)]) (rest := []) cx hp (mX2_choose F l g B h a0 a1 ra0 ra1 o' hx) 2 ra0 (by decide) rfl vw_X2_choose ml_X2_89 (by decide) rfl hl.1 rfl (Nat.le_of_ble_eq_true rfl) dX2_above_2) hf (fun _ h H locs hp hf => ?_)
  refine lv_aload_n cx.1 cx.2.1 dX2_above_5 rfl (lv_at hl 0 rfl) ?_
  refine lv_aload_n cx.1 cx.2.1 dX2_above_6 rfl (lv_at hl 0 rfl) ?_
  refine z_gets cx hp (T := TX2) 2 0 (a0 + 1) rfl zin_2 (by decide) (by decide) ra0 rfl fl_X2_9 dX2_above_7 ?_
  refine lv_iload_n cx.1 cx.2.1 dX2_above_10 rfl (lv_at hl 2 rfl) ?_
  refine z_iald cx hp (zs_2_0 a0 (kt_lt ra0 (by decide)) ra0) ra2 dX2_above_11 hf (fun x2 rx2 hf => ?_)
  refine lv_aload_n cx.1 cx.2.1 dX2_above_12 rfl (lv_at hl 0 rfl) ?_
  refine z_gets cx hp (T := TX2) 2 3 (a0 + 3) rfl zin_2 (by decide) (by decide) ra0 rfl fl_X2_18 dX2_above_13 ?_
  refine z_cv cx hp (fun o' hx => zrunV (n := 2) (As := [.int (ii x2), .ref (B + (a0 + 3))]) (rest := []) cx hp (mX2_decode F l g B h a0 x2 (a0 + 3) ra0 rx2 (zs_2_3 a0 (kt_lt ra0 (by decide)) ra0) o' hx) 2 ra0 (by decide) rfl vw_X2_decode ml_X2_69 (by decide) rfl hl.1 rfl (Nat.le_of_ble_eq_true rfl) dX2_above_16) hf (fun _ h H locs hp hf => ?_)
  refine z_iconst cx dX2_above_19 ?_
  refine lv_istore_n (lv' := [(3, .int (ii 0)), (0, .ref (B + a0)), (1, .int (ii a1)), (2, .int (ii a2))]) cx.1 cx.2.1 dX2_above_20 rfl hl (by decide) rfl (fun ls hl => ?_)
  refine z_jn hf (fun j => ∀  (h : HF) (H : Heap) (locs : List Loc) (ls : Array Slot), Hp g B s h H locs → lv_has ls 4 [(0, .ref (B + a0))] → j  h = some o → W p l e (rmn 2) s m args below meth c H locs 0 0 Q (F0 m 49 ls [])) ?_ (fun j49 hj49 hf => ?_)
  · intro  h H locs ls  hp hl hf
    refine lv_aload_n cx.1 cx.2.1 dX2_above_49 rfl (lv_at hl 0 rfl) ?_
    refine z_ci cx hp (fun o' hx => zrunV (n := 2) (As := []) (rest := []) cx hp (mX2_number F l g B h a0 ra0 o' hx) 2 ra0 (by decide) rfl vw_X2_number ml_X2_86 (by decide) rfl hl.1 rfl (Nat.le_of_ble_eq_true rfl) dX2_above_50) hf (fun r4 h H locs rr4 hp hf => ?_)
    rw [hQ]; exact z_iret cx hp rr4 dX2_above_53 hf
  exact wX2_above_21 F cx a0 ra0 j49 hj49 F 0 h _ _ ls (by decide) hp (lv_sub hl [1, 0] rfl) hf
theorem dX2_below_0 : decode cX2_below 0 = .ok (.aload_n 0, 1) := by decide +kernel
theorem dX2_below_1 : decode cX2_below 1 = .ok (.iload_n 1, 1) := by decide +kernel
theorem dX2_below_2 : decode cX2_below 2 = .ok (.invokevirtual 89, 3) := by decide +kernel
theorem dX2_below_5 : decode cX2_below 5 = .ok (.aload_n 0, 1) := by decide +kernel
theorem dX2_below_6 : decode cX2_below 6 = .ok (.aload_n 0, 1) := by decide +kernel
theorem dX2_below_7 : decode cX2_below 7 = .ok (.getfield 9, 3) := by decide +kernel
theorem dX2_below_10 : decode cX2_below 10 = .ok (.iload_n 2, 1) := by decide +kernel
theorem dX2_below_11 : decode cX2_below 11 = .ok (.iaload, 1) := by decide +kernel
theorem dX2_below_12 : decode cX2_below 12 = .ok (.aload_n 0, 1) := by decide +kernel
theorem dX2_below_13 : decode cX2_below 13 = .ok (.getfield 18, 3) := by decide +kernel
theorem dX2_below_16 : decode cX2_below 16 = .ok (.invokevirtual 69, 3) := by decide +kernel
theorem dX2_below_19 : decode cX2_below 19 = .ok (.aload_n 0, 1) := by decide +kernel
theorem dX2_below_20 : decode cX2_below 20 = .ok (.getfield 21, 3) := by decide +kernel
theorem dX2_below_23 : decode cX2_below 23 = .ok (.getfield 39, 3) := by decide +kernel
theorem dX2_below_26 : decode cX2_below 26 = .ok (.iconst 1, 1) := by decide +kernel
theorem dX2_below_27 : decode cX2_below 27 = .ok (.isub, 1) := by decide +kernel
theorem dX2_below_28 : decode cX2_below 28 = .ok (.istore_n 3, 1) := by decide +kernel
theorem dX2_below_29 : decode cX2_below 29 = .ok (.iload_n 3, 1) := by decide +kernel
theorem dX2_below_30 : decode cX2_below 30 = .ok (.ifCond .lt 64, 3) := by decide +kernel
theorem dX2_below_33 : decode cX2_below 33 = .ok (.iconst 0, 1) := by decide +kernel
theorem dX2_below_34 : decode cX2_below 34 = .ok (.istore 4, 2) := by decide +kernel
theorem dX2_below_36 : decode cX2_below 36 = .ok (.iload 4, 2) := by decide +kernel
theorem dX2_below_38 : decode cX2_below 38 = .ok (.iload_n 3, 1) := by decide +kernel
theorem dX2_below_39 : decode cX2_below 39 = .ok (.if_icmp .ge 41, 3) := by decide +kernel
theorem dX2_below_42 : decode cX2_below 42 = .ok (.aload_n 0, 1) := by decide +kernel
theorem dX2_below_43 : decode cX2_below 43 = .ok (.getfield 15, 3) := by decide +kernel
theorem dX2_below_46 : decode cX2_below 46 = .ok (.iload 4, 2) := by decide +kernel
theorem dX2_below_48 : decode cX2_below 48 = .ok (.iaload, 1) := by decide +kernel
theorem dX2_below_49 : decode cX2_below 49 = .ok (.aload_n 0, 1) := by decide +kernel
theorem dX2_below_50 : decode cX2_below 50 = .ok (.getfield 15, 3) := by decide +kernel
theorem dX2_below_53 : decode cX2_below 53 = .ok (.iload_n 3, 1) := by decide +kernel
theorem dX2_below_54 : decode cX2_below 54 = .ok (.iaload, 1) := by decide +kernel
theorem dX2_below_55 : decode cX2_below 55 = .ok (.if_icmp .ne 19, 3) := by decide +kernel
theorem dX2_below_58 : decode cX2_below 58 = .ok (.aload_n 0, 1) := by decide +kernel
theorem dX2_below_59 : decode cX2_below 59 = .ok (.getfield 18, 3) := by decide +kernel
theorem dX2_below_62 : decode cX2_below 62 = .ok (.iload 4, 2) := by decide +kernel
theorem dX2_below_64 : decode cX2_below 64 = .ok (.iaload, 1) := by decide +kernel
theorem dX2_below_65 : decode cX2_below 65 = .ok (.aload_n 0, 1) := by decide +kernel
theorem dX2_below_66 : decode cX2_below 66 = .ok (.getfield 18, 3) := by decide +kernel
theorem dX2_below_69 : decode cX2_below 69 = .ok (.iload_n 3, 1) := by decide +kernel
theorem dX2_below_70 : decode cX2_below 70 = .ok (.iaload, 1) := by decide +kernel
theorem dX2_below_71 : decode cX2_below 71 = .ok (.if_icmp .eq 9, 3) := by decide +kernel
theorem dX2_below_74 : decode cX2_below 74 = .ok (.iinc 4 1, 3) := by decide +kernel
theorem dX2_below_77 : decode cX2_below 77 = .ok (.goto (-41), 3) := by decide +kernel
theorem dX2_below_80 : decode cX2_below 80 = .ok (.aload_n 0, 1) := by decide +kernel
theorem dX2_below_81 : decode cX2_below 81 = .ok (.getfield 15, 3) := by decide +kernel
theorem dX2_below_84 : decode cX2_below 84 = .ok (.iload_n 3, 1) := by decide +kernel
theorem dX2_below_85 : decode cX2_below 85 = .ok (.iload 4, 2) := by decide +kernel
theorem dX2_below_87 : decode cX2_below 87 = .ok (.iastore, 1) := by decide +kernel
theorem dX2_below_88 : decode cX2_below 88 = .ok (.iinc 3 (-1), 3) := by decide +kernel
theorem dX2_below_91 : decode cX2_below 91 = .ok (.goto (-62), 3) := by decide +kernel
theorem dX2_below_94 : decode cX2_below 94 = .ok (.aload_n 0, 1) := by decide +kernel
theorem dX2_below_95 : decode cX2_below 95 = .ok (.invokevirtual 86, 3) := by decide +kernel
theorem dX2_below_98 : decode cX2_below 98 = .ok (.ireturn, 1) := by decide +kernel
def LX2_below_36 (F : Nat) (u0 : Nat) (u3 : Int) (k80 : Int → Int → HF → RO) : Nat → Int → HF → RO
  | 0, _, _ => none
  | n + 1, v4, h =>
    if v4 < u3 then (
      zrd h (u0 + 2) v4 fun x9 =>
      zrd h (u0 + 2) u3 fun x10 =>
      zjn (fun (x74_4 : Int) (h : HF) => (
        zlet (wr (x74_4 + 1)) fun x11 =>
        LX2_below_36 F u0 u3 k80 n x11 h
      )) fun j74 =>
      if x9 = x10 then (
        zrd h (u0 + 3) v4 fun x12 =>
        zrd h (u0 + 3) u3 fun x13 =>
        if x12 = x13 then (
          k80 u3 v4 h
        ) else (
          j74 v4 h
        )
      ) else (
        j74 v4 h
      )
    ) else (
      k80 u3 v4 h
    )
set_option maxHeartbeats 4000000 in
set_option maxRecDepth 100000 in
theorem wX2_below_36 {p : Program} {l : Launch} {e : Env} {s : State} {m : MethodId} {args : Array Value} {below : List Frame} {meth : Method} {c : Code} {Q : State → Prop} {g : zG} {B : Nat} {o : Int × HF} (F : Nat) (cx : Cx p s m args meth c cX2_below 5 RX2 (some .int) g B) (u0 : Nat) (ru0 : kt u0 = 5) (u3 : Int) (ru3 : rng u3) (k80 : Int → Int → HF → RO) (hk80 : ∀ (x3 : Int) (x4 : Int) (h : HF) (H : Heap) (locs : List Loc) (ls : Array Slot), rng x3 → rng x4 → Hp g B s h H locs → lv_has ls 5 [(0, .ref (B + u0)), (3, .int (ii x3)), (4, .int (ii x4))] → k80 x3 x4 h = some o → W p l e (rmn 2) s m args below meth c H locs 0 0 Q (F0 m 80 ls [])) : ∀ (n : Nat) (v4 : Int) (h : HF) (H : Heap) (locs : List Loc) (ls : Array Slot), rng v4 → Hp g B s h H locs → lv_has ls 5 [(0, .ref (B + u0)), (3, .int (ii u3)), (4, .int (ii v4))] → LX2_below_36 F u0 u3 k80 n v4 h = some o → W p l e (rmn 2) s m args below meth c H locs 0 0 Q (F0 m 36 ls []) := by
  intro n
  induction n with
  | zero =>
    intro v4 h H locs ls rv4 hp hl hf
    cases hf
  | succ n ih =>
    intro v4 h H locs ls rv4 hp hl hf
    rw [LX2_below_36] at hf
    refine lv_iload cx.1 cx.2.1 dX2_below_36 (lv_at hl 2 rfl) ?_
    refine lv_iload_n cx.1 cx.2.1 dX2_below_38 rfl (lv_at hl 1 rfl) ?_
    refine z_icmp_ge cx rv4 ru3 (tgt := 80) dX2_below_39 (by decide) hf (fun _ hf => ?_) (fun _ hf => ?_)
    · refine lv_aload_n cx.1 cx.2.1 dX2_below_42 rfl (lv_at hl 0 rfl) ?_
      refine z_gets cx hp (T := TX2) 2 2 (u0 + 2) rfl zin_2 (by decide) (by decide) ru0 rfl fl_X2_15 dX2_below_43 ?_
      refine lv_iload cx.1 cx.2.1 dX2_below_46 (lv_at hl 2 rfl) ?_
      refine z_iald cx hp (zs_2_2 u0 (kt_lt ru0 (by decide)) ru0) rv4 dX2_below_48 hf (fun x9 rx9 hf => ?_)
      refine lv_aload_n cx.1 cx.2.1 dX2_below_49 rfl (lv_at hl 0 rfl) ?_
      refine z_gets cx hp (T := TX2) 2 2 (u0 + 2) rfl zin_2 (by decide) (by decide) ru0 rfl fl_X2_15 dX2_below_50 ?_
      refine lv_iload_n cx.1 cx.2.1 dX2_below_53 rfl (lv_at hl 1 rfl) ?_
      refine z_iald cx hp (zs_2_2 u0 (kt_lt ru0 (by decide)) ru0) ru3 dX2_below_54 hf (fun x10 rx10 hf => ?_)
      refine z_jn hf (fun j => ∀ (x74_4 : Int) (h : HF) (H : Heap) (locs : List Loc) (ls : Array Slot), rng x74_4 → Hp g B s h H locs → lv_has ls 5 [(0, .ref (B + u0)), (3, .int (ii u3)), (4, .int (ii x74_4))] → j x74_4 h = some o → W p l e (rmn 2) s m args below meth c H locs 0 0 Q (F0 m 74 ls [])) ?_ (fun j74 hj74 hf => ?_)
      · intro x74_4 h H locs ls rx74_4 hp hl hf
        refine z_iinc cx (fun x11 => [(4, .int (ii x11)), (0, .ref (B + u0)), (3, .int (ii u3))]) dX2_below_74 hl (k := 2) rfl (by decide) (fun _ => rfl) hf (fun x11 rx11 hf ls hl => ?_)
        refine lv_goto (tgt := 36) cx.1 cx.2.1 dX2_below_77 (by decide) ?_
        exact ih x11 h _ _ ls rx11 hp (lv_sub hl [1, 2, 0] rfl) hf
      refine z_icmp_ne cx rx9 rx10 (tgt := 74) dX2_below_55 (by decide) hf (fun _ hf => ?_) (fun _ hf => ?_)
      · refine lv_aload_n cx.1 cx.2.1 dX2_below_58 rfl (lv_at hl 0 rfl) ?_
        refine z_gets cx hp (T := TX2) 2 3 (u0 + 3) rfl zin_2 (by decide) (by decide) ru0 rfl fl_X2_18 dX2_below_59 ?_
        refine lv_iload cx.1 cx.2.1 dX2_below_62 (lv_at hl 2 rfl) ?_
        refine z_iald cx hp (zs_2_3 u0 (kt_lt ru0 (by decide)) ru0) rv4 dX2_below_64 hf (fun x12 rx12 hf => ?_)
        refine lv_aload_n cx.1 cx.2.1 dX2_below_65 rfl (lv_at hl 0 rfl) ?_
        refine z_gets cx hp (T := TX2) 2 3 (u0 + 3) rfl zin_2 (by decide) (by decide) ru0 rfl fl_X2_18 dX2_below_66 ?_
        refine lv_iload_n cx.1 cx.2.1 dX2_below_69 rfl (lv_at hl 1 rfl) ?_
        refine z_iald cx hp (zs_2_3 u0 (kt_lt ru0 (by decide)) ru0) ru3 dX2_below_70 hf (fun x13 rx13 hf => ?_)
        refine z_icmp_eq cx rx12 rx13 (tgt := 80) dX2_below_71 (by decide) hf (fun _ hf => ?_) (fun _ hf => ?_)
        · exact hk80 u3 v4 h _ _ ls ru3 rv4 hp (lv_sub hl [0, 1, 2] rfl) hf
        · exact hj74 v4 h _ _ ls rv4 hp (lv_sub hl [0, 1, 2] rfl) hf
      · exact hj74 v4 h _ _ ls rv4 hp (lv_sub hl [0, 1, 2] rfl) hf
    · exact hk80 u3 v4 h _ _ ls ru3 rv4 hp (lv_sub hl [0, 1, 2] rfl) hf
def LX2_below_29 (F : Nat) (u0 : Nat) (k94 : HF → RO) : Nat → Int → HF → RO
  | 0, _, _ => none
  | n + 1, v3, h =>
    if v3 < 0 then (
      k94  h
    ) else (
      zjn (fun (x80_3 : Int) (x80_4 : Int) (h : HF) => (
        zwr h (u0 + 2) x80_3 x80_4 fun h =>
        zlet (wr (x80_3 + (-1))) fun x8 =>
        LX2_below_29 F u0 k94 n x8 h
      )) fun j80 =>
      LX2_below_36 F u0 v3 j80 F 0 h
    )
set_option maxHeartbeats 4000000 in
set_option maxRecDepth 100000 in
theorem wX2_below_29 {p : Program} {l : Launch} {e : Env} {s : State} {m : MethodId} {args : Array Value} {below : List Frame} {meth : Method} {c : Code} {Q : State → Prop} {g : zG} {B : Nat} {o : Int × HF} (F : Nat) (cx : Cx p s m args meth c cX2_below 5 RX2 (some .int) g B) (u0 : Nat) (ru0 : kt u0 = 5) (k94 : HF → RO) (hk94 : ∀  (h : HF) (H : Heap) (locs : List Loc) (ls : Array Slot), Hp g B s h H locs → lv_has ls 5 [(0, .ref (B + u0))] → k94  h = some o → W p l e (rmn 2) s m args below meth c H locs 0 0 Q (F0 m 94 ls [])) : ∀ (n : Nat) (v3 : Int) (h : HF) (H : Heap) (locs : List Loc) (ls : Array Slot), rng v3 → Hp g B s h H locs → lv_has ls 5 [(0, .ref (B + u0)), (3, .int (ii v3))] → LX2_below_29 F u0 k94 n v3 h = some o → W p l e (rmn 2) s m args below meth c H locs 0 0 Q (F0 m 29 ls []) := by
  intro n
  induction n with
  | zero =>
    intro v3 h H locs ls rv3 hp hl hf
    cases hf
  | succ n ih =>
    intro v3 h H locs ls rv3 hp hl hf
    rw [LX2_below_29] at hf
    refine lv_iload_n cx.1 cx.2.1 dX2_below_29 rfl (lv_at hl 1 rfl) ?_
    refine z_if_lt cx rv3 (tgt := 94) dX2_below_30 (by decide) hf (fun _ hf => ?_) (fun _ hf => ?_)
    · exact hk94  h _ _ ls  hp (lv_sub hl [0] rfl) hf
    · refine z_iconst cx dX2_below_33 ?_
      refine lv_istore (lv' := [(4, .int (ii 0)), (0, .ref (B + u0)), (3, .int (ii v3))]) cx.1 cx.2.1 dX2_below_34 hl (by decide) rfl (fun ls hl => ?_)
      refine z_jn hf (fun j => ∀ (x80_3 : Int) (x80_4 : Int) (h : HF) (H : Heap) (locs : List Loc) (ls : Array Slot), rng x80_3 → rng x80_4 → Hp g B s h H locs → lv_has ls 5 [(0, .ref (B + u0)), (3, .int (ii x80_3)), (4, .int (ii x80_4))] → j x80_3 x80_4 h = some o → W p l e (rmn 2) s m args below meth c H locs 0 0 Q (F0 m 80 ls [])) ?_ (fun j80 hj80 hf => ?_)
      · intro x80_3 x80_4 h H locs ls rx80_3 rx80_4 hp hl hf
        refine lv_aload_n cx.1 cx.2.1 dX2_below_80 rfl (lv_at hl 0 rfl) ?_
        refine z_gets cx hp (T := TX2) 2 2 (u0 + 2) rfl zin_2 (by decide) (by decide) ru0 rfl fl_X2_15 dX2_below_81 ?_
        refine lv_iload_n cx.1 cx.2.1 dX2_below_84 rfl (lv_at hl 1 rfl) ?_
        refine lv_iload cx.1 cx.2.1 dX2_below_85 (lv_at hl 2 rfl) ?_
        refine z_iast cx hp (zs_2_2 u0 (kt_lt ru0 (by decide)) ru0) rx80_3 rx80_4 dX2_below_87 hf (fun h H locs hp hf => ?_)
        refine z_iinc cx (fun x8 => [(3, .int (ii x8)), (0, .ref (B + u0)), (4, .int (ii x80_4))]) dX2_below_88 hl (k := 1) rfl (by decide) (fun _ => rfl) hf (fun x8 rx8 hf ls hl => ?_)
        refine lv_goto (tgt := 29) cx.1 cx.2.1 dX2_below_91 (by decide) ?_
        exact ih x8 h _ _ ls rx8 hp (lv_sub hl [1, 0] rfl) hf
      exact wX2_below_36 F cx u0 ru0 v3 rv3 j80 hj80 F 0 h _ _ ls (by decide) hp (lv_sub hl [1, 2, 0] rfl) hf
def fX2_below (F : Nat) (a0 : Nat) (a1 : Int) (a2 : Int) (h : HF) : RO :=
  zbd (fX2_choose F a0 a1 h) fun _ h =>
  zrd h (a0 + 1) a2 fun x2 =>
  zbd (fX2_decode F a0 x2 (a0 + 3) h) fun _ h =>
  zgd h a0 4 fun x4 =>
  zgf h x4 0 fun x5 =>
  zlet (wr (x5 - 1)) fun x6 =>
  zjn (fun  (h : HF) => (
    zbd (fX2_number F a0 h) fun r7 h =>
    some (r7, h)
  )) fun j94 =>
  LX2_below_29 F a0 j94 F x6 h
set_option maxHeartbeats 4000000 in
set_option maxRecDepth 100000 in
theorem mX2_below (F : Nat) (l : Launch) (g : zG) (B : Nat) (h : HF) (a0 : Nat) (a1 : Int) (a2 : Int) (ra0 : kt a0 = 5) (ra1 : rng a1) (ra2 : rng a2) : CTi l g B yX2_below cX2_below 5 (some .int) 2 [.ref (B + a0), .int (ii a1), .int (ii a2)] h (fX2_below F a0 a1 a2 h) := by
  refine z_enterI (by decide) rfl (Nat.le_of_ble_eq_true rfl) ?_
  intro p e s m args below meth c ls o Q cx hp hl hf hQ
  have hl : lv_has ls 5 [(0, .ref (B + a0)), (1, .int (ii a1)), (2, .int (ii a2))] := hl
  unfold fX2_below at hf
  refine lv_aload_n cx.1 cx.2.1 dX2_below_0 rfl (lv_at hl 0 rfl) ?_
  refine lv_iload_n cx.1 cx.2.1 dX2_below_1 rfl (lv_at hl 1 rfl) ?_
  refine z_cv cx hp (fun o' hx => zrunV (n := 2) (As := [.int (ii a1)]) (rest := []) cx hp (mX2_choose F l g B h a0 a1 ra0 ra1 o' hx) 2 ra0 (by decide) rfl vw_X2_choose ml_X2_89 (by decide) rfl hl.1 rfl (Nat.le_of_ble_eq_true rfl) dX2_below_2) hf (fun _ h H locs hp hf => ?_)
  refine lv_aload_n cx.1 cx.2.1 dX2_below_5 rfl (lv_at hl 0 rfl) ?_
  refine lv_aload_n cx.1 cx.2.1 dX2_below_6 rfl (lv_at hl 0 rfl) ?_
  refine z_gets cx hp (T := TX2) 2 0 (a0 + 1) rfl zin_2 (by decide) (by decide) ra0 rfl fl_X2_9 dX2_below_7 ?_
  refine lv_iload_n cx.1 cx.2.1 dX2_below_10 rfl (lv_at hl 2 rfl) ?_
  refine z_iald cx hp (zs_2_0 a0 (kt_lt ra0 (by decide)) ra0) ra2 dX2_below_11 hf (fun x2 rx2 hf => ?_)
  refine lv_aload_n cx.1 cx.2.1 dX2_below_12 rfl (lv_at hl 0 rfl) ?_
  refine z_gets cx hp (T := TX2) 2 3 (a0 + 3) rfl zin_2 (by decide) (by decide) ra0 rfl fl_X2_18 dX2_below_13 ?_
  refine z_cv cx hp (fun o' hx => zrunV (n := 2) (As := [.int (ii x2), .ref (B + (a0 + 3))]) (rest := []) cx hp (mX2_decode F l g B h a0 x2 (a0 + 3) ra0 rx2 (zs_2_3 a0 (kt_lt ra0 (by decide)) ra0) o' hx) 2 ra0 (by decide) rfl vw_X2_decode ml_X2_69 (by decide) rfl hl.1 rfl (Nat.le_of_ble_eq_true rfl) dX2_below_16) hf (fun _ h H locs hp hf => ?_)
  refine lv_aload_n cx.1 cx.2.1 dX2_below_19 rfl (lv_at hl 0 rfl) ?_
  refine z_getd cx hp (T := TX2) 2 4 3 rfl zin_2 (by decide) (by decide) ra0 rfl fl_X2_21 dX2_below_20 hf (fun x4 rx4 hf => ?_)
  refine z_geti cx hp (T := TX0) 0 0 rfl zin_0 (by decide) (by decide) rx4 rfl fl_X2_39 dX2_below_23 hf (fun x5 rx5 hf => ?_)
  refine z_iconst cx dX2_below_26 ?_
  refine z_isub cx dX2_below_27 ?_
  refine z_let (rng_wr _) hf (fun x6 rx6 hf => ?_)
  refine lv_istore_n (lv' := [(3, .int (ii x6)), (0, .ref (B + a0)), (1, .int (ii a1)), (2, .int (ii a2))]) cx.1 cx.2.1 dX2_below_28 rfl hl (by decide) rfl (fun ls hl => ?_)
  refine z_jn hf (fun j => ∀  (h : HF) (H : Heap) (locs : List Loc) (ls : Array Slot), Hp g B s h H locs → lv_has ls 5 [(0, .ref (B + a0))] → j  h = some o → W p l e (rmn 2) s m args below meth c H locs 0 0 Q (F0 m 94 ls [])) ?_ (fun j94 hj94 hf => ?_)
  · intro  h H locs ls  hp hl hf
    refine lv_aload_n cx.1 cx.2.1 dX2_below_94 rfl (lv_at hl 0 rfl) ?_
    refine z_ci cx hp (fun o' hx => zrunV (n := 2) (As := []) (rest := []) cx hp (mX2_number F l g B h a0 ra0 o' hx) 2 ra0 (by decide) rfl vw_X2_number ml_X2_86 (by decide) rfl hl.1 rfl (Nat.le_of_ble_eq_true rfl) dX2_below_95) hf (fun r7 h H locs rr7 hp hf => ?_)
    rw [hQ]; exact z_iret cx hp rr7 dX2_below_98 hf
  exact wX2_below_29 F cx a0 ra0 j94 hj94 F x6 h _ _ ls rx6 hp (lv_sub hl [1, 0] rfl) hf
theorem dX3_keep_0 : decode cX3_keep 0 = .ok (.aload_n 0, 1) := by decide +kernel
theorem dX3_keep_1 : decode cX3_keep 1 = .ok (.getfield 22, 3) := by decide +kernel
theorem dX3_keep_4 : decode cX3_keep 4 = .ok (.aload_n 0, 1) := by decide +kernel
theorem dX3_keep_5 : decode cX3_keep 5 = .ok (.getfield 26, 3) := by decide +kernel
theorem dX3_keep_8 : decode cX3_keep 8 = .ok (.iadd, 1) := by decide +kernel
theorem dX3_keep_9 : decode cX3_keep 9 = .ok (.bipush 16, 2) := by decide +kernel
theorem dX3_keep_11 : decode cX3_keep 11 = .ok (.irem, 1) := by decide +kernel
theorem dX3_keep_12 : decode cX3_keep 12 = .ok (.istore_n 3, 1) := by decide +kernel
theorem dX3_keep_13 : decode cX3_keep 13 = .ok (.aload_n 0, 1) := by decide +kernel
theorem dX3_keep_14 : decode cX3_keep 14 = .ok (.getfield 11, 3) := by decide +kernel
theorem dX3_keep_17 : decode cX3_keep 17 = .ok (.iload_n 3, 1) := by decide +kernel
theorem dX3_keep_18 : decode cX3_keep 18 = .ok (.aaload, 1) := by decide +kernel
theorem dX3_keep_19 : decode cX3_keep 19 = .ok (.aload_n 2, 1) := by decide +kernel
theorem dX3_keep_20 : decode cX3_keep 20 = .ok (.invokevirtual 29, 3) := by decide +kernel
theorem dX3_keep_23 : decode cX3_keep 23 = .ok (.aload_n 0, 1) := by decide +kernel
theorem dX3_keep_24 : decode cX3_keep 24 = .ok (.getfield 17, 3) := by decide +kernel
theorem dX3_keep_27 : decode cX3_keep 27 = .ok (.iload_n 3, 1) := by decide +kernel
theorem dX3_keep_28 : decode cX3_keep 28 = .ok (.iload_n 1, 1) := by decide +kernel
theorem dX3_keep_29 : decode cX3_keep 29 = .ok (.iastore, 1) := by decide +kernel
theorem dX3_keep_30 : decode cX3_keep 30 = .ok (.aload_n 0, 1) := by decide +kernel
theorem dX3_keep_31 : decode cX3_keep 31 = .ok (.getfield 26, 3) := by decide +kernel
theorem dX3_keep_34 : decode cX3_keep 34 = .ok (.bipush 16, 2) := by decide +kernel
theorem dX3_keep_36 : decode cX3_keep 36 = .ok (.if_icmp .ge 16, 3) := by decide +kernel
theorem dX3_keep_39 : decode cX3_keep 39 = .ok (.aload_n 0, 1) := by decide +kernel
theorem dX3_keep_40 : decode cX3_keep 40 = .ok (.dup, 1) := by decide +kernel
theorem dX3_keep_41 : decode cX3_keep 41 = .ok (.getfield 26, 3) := by decide +kernel
theorem dX3_keep_44 : decode cX3_keep 44 = .ok (.iconst 1, 1) := by decide +kernel
theorem dX3_keep_45 : decode cX3_keep 45 = .ok (.iadd, 1) := by decide +kernel
theorem dX3_keep_46 : decode cX3_keep 46 = .ok (.putfield 26, 3) := by decide +kernel
theorem dX3_keep_49 : decode cX3_keep 49 = .ok (.goto 16, 3) := by decide +kernel
theorem dX3_keep_52 : decode cX3_keep 52 = .ok (.aload_n 0, 1) := by decide +kernel
theorem dX3_keep_53 : decode cX3_keep 53 = .ok (.aload_n 0, 1) := by decide +kernel
theorem dX3_keep_54 : decode cX3_keep 54 = .ok (.getfield 22, 3) := by decide +kernel
theorem dX3_keep_57 : decode cX3_keep 57 = .ok (.iconst 1, 1) := by decide +kernel
theorem dX3_keep_58 : decode cX3_keep 58 = .ok (.iadd, 1) := by decide +kernel
theorem dX3_keep_59 : decode cX3_keep 59 = .ok (.bipush 16, 2) := by decide +kernel
theorem dX3_keep_61 : decode cX3_keep 61 = .ok (.irem, 1) := by decide +kernel
theorem dX3_keep_62 : decode cX3_keep 62 = .ok (.putfield 22, 3) := by decide +kernel
theorem dX3_keep_65 : decode cX3_keep 65 = .ok (.return_, 1) := by decide +kernel
def fX3_keep (F : Nat) (a0 : Nat) (a1 : Int) (a2 : Nat) (h : HF) : RO :=
  zgf h a0 2 fun x1 =>
  zgf h a0 3 fun x2 =>
  zdv 16 <|
  zlet (wrem (wr (x1 + x2)) 16) fun x3 =>
  zrs (a0 + 1) x3 fun x4 =>
  zbd (fX0_copyFrom F x4 a2 h) fun _ h =>
  zwr h (a0 + 2) x3 a1 fun h =>
  zgf h a0 3 fun x6 =>
  zjn (fun  (h : HF) => (
    some (0, h)
  )) fun j65 =>
  if x6 < 16 then (
    zgf h a0 3 fun x7 =>
    zpf h a0 3 (wr (x7 + 1)) fun h =>
    j65  h
  ) else (
    zgf h a0 2 fun x8 =>
    zdv 16 <|
    zpf h a0 2 (wrem (wr (x8 + 1)) 16) fun h =>
    j65  h
  )
set_option maxHeartbeats 4000000 in
set_option maxRecDepth 100000 in
theorem mX3_keep (F : Nat) (l : Launch) (g : zG) (B : Nat) (h : HF) (a0 : Nat) (a1 : Int) (a2 : Nat) (ra0 : kt a0 = 6) (ra1 : rng a1) (ra2 : kt a2 = 3) : CTv l g B yX3_keep cX3_keep 4 2 [.ref (B + a0), .int (ii a1), .ref (B + a2)] h (fX3_keep F a0 a1 a2 h) := by
  refine z_enterV (by decide) rfl (Nat.le_of_ble_eq_true rfl) ?_
  intro p e s m args below meth c ls o Q cx hp hl hf hQ
  have hl : lv_has ls 4 [(0, .ref (B + a0)), (1, .int (ii a1)), (2, .ref (B + a2))] := hl
  unfold fX3_keep at hf
  refine lv_aload_n cx.1 cx.2.1 dX3_keep_0 rfl (lv_at hl 0 rfl) ?_
  refine z_geti cx hp (T := TX3) 3 2 rfl zin_3 (by decide) (by decide) ra0 rfl fl_X3_22 dX3_keep_1 hf (fun x1 rx1 hf => ?_)
  refine lv_aload_n cx.1 cx.2.1 dX3_keep_4 rfl (lv_at hl 0 rfl) ?_
  refine z_geti cx hp (T := TX3) 3 3 rfl zin_3 (by decide) (by decide) ra0 rfl fl_X3_26 dX3_keep_5 hf (fun x2 rx2 hf => ?_)
  refine z_iadd cx dX3_keep_8 ?_
  refine z_bipush cx (by decide) dX3_keep_9 ?_
  refine z_irem cx (rng_wr _) (by decide) dX3_keep_11 hf (fun hf => ?_)
  refine z_let (rng_rem _ _) hf (fun x3 rx3 hf => ?_)
  refine lv_istore_n (lv' := [(3, .int (ii x3)), (0, .ref (B + a0)), (1, .int (ii a1)), (2, .ref (B + a2))]) cx.1 cx.2.1 dX3_keep_12 rfl hl (by decide) rfl (fun ls hl => ?_)
  refine lv_aload_n cx.1 cx.2.1 dX3_keep_13 rfl (lv_at hl 1 rfl) ?_
  refine z_gets cx hp (T := TX3) 3 0 (a0 + 1) rfl zin_3 (by decide) (by decide) ra0 rfl fl_X3_11 dX3_keep_14 ?_
  refine lv_iload_n cx.1 cx.2.1 dX3_keep_17 rfl (lv_at hl 0 rfl) ?_
  refine z_aald1 cx hp (zs_3_0 a0 (kt_lt ra0 (by decide)) ra0) rx3 dX3_keep_18 hf (fun x4 rx4 hf => ?_)
  refine lv_aload_n cx.1 cx.2.1 dX3_keep_19 rfl (lv_at hl 3 rfl) ?_
  refine z_cv cx hp (fun o' hx => zrunV (n := 2) (As := [.ref (B + a2)]) (rest := []) cx hp (mX0_copyFrom F l g B h x4 a2 rx4 ra2 o' hx) 0 rx4 (by decide) rfl vw_X0_copyFrom ml_X3_29 (by decide) rfl hl.1 rfl (Nat.le_of_ble_eq_true rfl) dX3_keep_20) hf (fun _ h H locs hp hf => ?_)
  refine lv_aload_n cx.1 cx.2.1 dX3_keep_23 rfl (lv_at hl 1 rfl) ?_
  refine z_gets cx hp (T := TX3) 3 1 (a0 + 2) rfl zin_3 (by decide) (by decide) ra0 rfl fl_X3_17 dX3_keep_24 ?_
  refine lv_iload_n cx.1 cx.2.1 dX3_keep_27 rfl (lv_at hl 0 rfl) ?_
  refine lv_iload_n cx.1 cx.2.1 dX3_keep_28 rfl (lv_at hl 2 rfl) ?_
  refine z_iast cx hp (zs_3_1 a0 (kt_lt ra0 (by decide)) ra0) rx3 ra1 dX3_keep_29 hf (fun h H locs hp hf => ?_)
  refine lv_aload_n cx.1 cx.2.1 dX3_keep_30 rfl (lv_at hl 1 rfl) ?_
  refine z_geti cx hp (T := TX3) 3 3 rfl zin_3 (by decide) (by decide) ra0 rfl fl_X3_26 dX3_keep_31 hf (fun x6 rx6 hf => ?_)
  refine z_bipush cx (by decide) dX3_keep_34 ?_
  refine z_jn hf (fun j => ∀  (h : HF) (H : Heap) (locs : List Loc) (ls : Array Slot), Hp g B s h H locs → lv_has ls 4 [] → j  h = some o → W p l e (rmn 2) s m args below meth c H locs 0 0 Q (F0 m 65 ls [])) ?_ (fun j65 hj65 hf => ?_)
  · intro  h H locs ls  hp hl hf
    rw [hQ]; exact z_vret cx hp dX3_keep_65 hf
  refine z_icmp_ge cx rx6 (by decide) (tgt := 52) dX3_keep_36 (by decide) hf (fun _ hf => ?_) (fun _ hf => ?_)
  · refine lv_aload_n cx.1 cx.2.1 dX3_keep_39 rfl (lv_at hl 1 rfl) ?_
    refine lv_dup cx.1 cx.2.1 dX3_keep_40 rfl ?_
    refine z_geti cx hp (T := TX3) 3 3 rfl zin_3 (by decide) (by decide) ra0 rfl fl_X3_26 dX3_keep_41 hf (fun x7 rx7 hf => ?_)
    refine z_iconst cx dX3_keep_44 ?_
    refine z_iadd cx dX3_keep_45 ?_
    refine z_puti cx hp (T := TX3) tyX3 tyX3_ok nmX3 3 3 (rng_wr _) rfl zin_3 (by decide) (by decide) ra0 rfl rfl rfl fl_X3_26 dX3_keep_46 hf (fun h H locs hp hf => ?_)
    refine lv_goto (tgt := 65) cx.1 cx.2.1 dX3_keep_49 (by decide) ?_
    exact hj65  h _ _ ls  hp (lv_sub hl [] rfl) hf
  · refine lv_aload_n cx.1 cx.2.1 dX3_keep_52 rfl (lv_at hl 1 rfl) ?_
    refine lv_aload_n cx.1 cx.2.1 dX3_keep_53 rfl (lv_at hl 1 rfl) ?_
    refine z_geti cx hp (T := TX3) 3 2 rfl zin_3 (by decide) (by decide) ra0 rfl fl_X3_22 dX3_keep_54 hf (fun x8 rx8 hf => ?_)
    refine z_iconst cx dX3_keep_57 ?_
    refine z_iadd cx dX3_keep_58 ?_
    refine z_bipush cx (by decide) dX3_keep_59 ?_
    refine z_irem cx (rng_wr _) (by decide) dX3_keep_61 hf (fun hf => ?_)
    refine z_puti cx hp (T := TX3) tyX3 tyX3_ok nmX3 3 2 (rng_rem _ _) rfl zin_3 (by decide) (by decide) ra0 rfl rfl rfl fl_X3_22 dX3_keep_62 hf (fun h H locs hp hf => ?_)
    exact hj65  h _ _ ls  hp (lv_sub hl [] rfl) hf
theorem dX3_takeBack_0 : decode cX3_takeBack 0 = .ok (.aload_n 0, 1) := by decide +kernel
theorem dX3_takeBack_1 : decode cX3_takeBack 1 = .ok (.getfield 26, 3) := by decide +kernel
theorem dX3_takeBack_4 : decode cX3_takeBack 4 = .ok (.ifCond .ne 5, 3) := by decide +kernel
theorem dX3_takeBack_7 : decode cX3_takeBack 7 = .ok (.iconst (-1), 1) := by decide +kernel
theorem dX3_takeBack_8 : decode cX3_takeBack 8 = .ok (.ireturn, 1) := by decide +kernel
theorem dX3_takeBack_9 : decode cX3_takeBack 9 = .ok (.aload_n 0, 1) := by decide +kernel
theorem dX3_takeBack_10 : decode cX3_takeBack 10 = .ok (.dup, 1) := by decide +kernel
theorem dX3_takeBack_11 : decode cX3_takeBack 11 = .ok (.getfield 26, 3) := by decide +kernel
theorem dX3_takeBack_14 : decode cX3_takeBack 14 = .ok (.iconst 1, 1) := by decide +kernel
theorem dX3_takeBack_15 : decode cX3_takeBack 15 = .ok (.isub, 1) := by decide +kernel
theorem dX3_takeBack_16 : decode cX3_takeBack 16 = .ok (.putfield 26, 3) := by decide +kernel
theorem dX3_takeBack_19 : decode cX3_takeBack 19 = .ok (.aload_n 0, 1) := by decide +kernel
theorem dX3_takeBack_20 : decode cX3_takeBack 20 = .ok (.getfield 22, 3) := by decide +kernel
theorem dX3_takeBack_23 : decode cX3_takeBack 23 = .ok (.aload_n 0, 1) := by decide +kernel
theorem dX3_takeBack_24 : decode cX3_takeBack 24 = .ok (.getfield 26, 3) := by decide +kernel
theorem dX3_takeBack_27 : decode cX3_takeBack 27 = .ok (.iadd, 1) := by decide +kernel
theorem dX3_takeBack_28 : decode cX3_takeBack 28 = .ok (.bipush 16, 2) := by decide +kernel
theorem dX3_takeBack_30 : decode cX3_takeBack 30 = .ok (.irem, 1) := by decide +kernel
theorem dX3_takeBack_31 : decode cX3_takeBack 31 = .ok (.istore_n 2, 1) := by decide +kernel
theorem dX3_takeBack_32 : decode cX3_takeBack 32 = .ok (.aload_n 0, 1) := by decide +kernel
theorem dX3_takeBack_33 : decode cX3_takeBack 33 = .ok (.getfield 17, 3) := by decide +kernel
theorem dX3_takeBack_36 : decode cX3_takeBack 36 = .ok (.iload_n 2, 1) := by decide +kernel
theorem dX3_takeBack_37 : decode cX3_takeBack 37 = .ok (.iaload, 1) := by decide +kernel
theorem dX3_takeBack_38 : decode cX3_takeBack 38 = .ok (.istore_n 3, 1) := by decide +kernel
theorem dX3_takeBack_39 : decode cX3_takeBack 39 = .ok (.aload_n 1, 1) := by decide +kernel
theorem dX3_takeBack_40 : decode cX3_takeBack 40 = .ok (.iload_n 3, 1) := by decide +kernel
theorem dX3_takeBack_41 : decode cX3_takeBack 41 = .ok (.aaload, 1) := by decide +kernel
theorem dX3_takeBack_42 : decode cX3_takeBack 42 = .ok (.aload_n 0, 1) := by decide +kernel
theorem dX3_takeBack_43 : decode cX3_takeBack 43 = .ok (.getfield 11, 3) := by decide +kernel
theorem dX3_takeBack_46 : decode cX3_takeBack 46 = .ok (.iload_n 2, 1) := by decide +kernel
theorem dX3_takeBack_47 : decode cX3_takeBack 47 = .ok (.aaload, 1) := by decide +kernel
theorem dX3_takeBack_48 : decode cX3_takeBack 48 = .ok (.invokevirtual 29, 3) := by decide +kernel
theorem dX3_takeBack_51 : decode cX3_takeBack 51 = .ok (.iload_n 3, 1) := by decide +kernel
theorem dX3_takeBack_52 : decode cX3_takeBack 52 = .ok (.ireturn, 1) := by decide +kernel
def fX3_takeBack (F : Nat) (a0 : Nat) (a1 : Nat) (h : HF) : RO :=
  zgf h a0 3 fun x1 =>
  if x1 = 0 then (
    some ((-1), h)
  ) else (
    zgf h a0 3 fun x2 =>
    zpf h a0 3 (wr (x2 - 1)) fun h =>
    zgf h a0 2 fun x3 =>
    zgf h a0 3 fun x4 =>
    zdv 16 <|
    zlet (wrem (wr (x3 + x4)) 16) fun x5 =>
    zrd h (a0 + 2) x5 fun x6 =>
    zrs a1 x6 fun x7 =>
    zrs (a0 + 1) x5 fun x8 =>
    zbd (fX0_copyFrom F x7 x8 h) fun _ h =>
    some (x6, h)
  )
set_option maxHeartbeats 4000000 in
set_option maxRecDepth 100000 in
theorem mX3_takeBack (F : Nat) (l : Launch) (g : zG) (B : Nat) (h : HF) (a0 : Nat) (a1 : Nat) (ra0 : kt a0 = 6) (ra1 : kt a1 = 1) : CTi l g B yX3_takeBack cX3_takeBack 4 (some .int) 2 [.ref (B + a0), .ref (B + a1)] h (fX3_takeBack F a0 a1 h) := by
  refine z_enterI (by decide) rfl (Nat.le_of_ble_eq_true rfl) ?_
  intro p e s m args below meth c ls o Q cx hp hl hf hQ
  have hl : lv_has ls 4 [(0, .ref (B + a0)), (1, .ref (B + a1))] := hl
  unfold fX3_takeBack at hf
  refine lv_aload_n cx.1 cx.2.1 dX3_takeBack_0 rfl (lv_at hl 0 rfl) ?_
  refine z_geti cx hp (T := TX3) 3 3 rfl zin_3 (by decide) (by decide) ra0 rfl fl_X3_26 dX3_takeBack_1 hf (fun x1 rx1 hf => ?_)
  refine z_if_ne cx rx1 (tgt := 9) dX3_takeBack_4 (by decide) hf (fun _ hf => ?_) (fun _ hf => ?_)
  · refine z_iconst cx dX3_takeBack_7 ?_
    rw [hQ]; exact z_iret cx hp (by decide) dX3_takeBack_8 hf
  · refine lv_aload_n cx.1 cx.2.1 dX3_takeBack_9 rfl (lv_at hl 0 rfl) ?_
    refine lv_dup cx.1 cx.2.1 dX3_takeBack_10 rfl ?_
    refine z_geti cx hp (T := TX3) 3 3 rfl zin_3 (by decide) (by decide) ra0 rfl fl_X3_26 dX3_takeBack_11 hf (fun x2 rx2 hf => ?_)
    refine z_iconst cx dX3_takeBack_14 ?_
    refine z_isub cx dX3_takeBack_15 ?_
    refine z_puti cx hp (T := TX3) tyX3 tyX3_ok nmX3 3 3 (rng_wr _) rfl zin_3 (by decide) (by decide) ra0 rfl rfl rfl fl_X3_26 dX3_takeBack_16 hf (fun h H locs hp hf => ?_)
    refine lv_aload_n cx.1 cx.2.1 dX3_takeBack_19 rfl (lv_at hl 0 rfl) ?_
    refine z_geti cx hp (T := TX3) 3 2 rfl zin_3 (by decide) (by decide) ra0 rfl fl_X3_22 dX3_takeBack_20 hf (fun x3 rx3 hf => ?_)
    refine lv_aload_n cx.1 cx.2.1 dX3_takeBack_23 rfl (lv_at hl 0 rfl) ?_
    refine z_geti cx hp (T := TX3) 3 3 rfl zin_3 (by decide) (by decide) ra0 rfl fl_X3_26 dX3_takeBack_24 hf (fun x4 rx4 hf => ?_)
    refine z_iadd cx dX3_takeBack_27 ?_
    refine z_bipush cx (by decide) dX3_takeBack_28 ?_
    refine z_irem cx (rng_wr _) (by decide) dX3_takeBack_30 hf (fun hf => ?_)
    refine z_let (rng_rem _ _) hf (fun x5 rx5 hf => ?_)
    refine lv_istore_n (lv' := [(2, .int (ii x5)), (0, .ref (B + a0)), (1, .ref (B + a1))]) cx.1 cx.2.1 dX3_takeBack_31 rfl hl (by decide) rfl (fun ls hl => ?_)
    refine lv_aload_n cx.1 cx.2.1 dX3_takeBack_32 rfl (lv_at hl 1 rfl) ?_
    refine z_gets cx hp (T := TX3) 3 1 (a0 + 2) rfl zin_3 (by decide) (by decide) ra0 rfl fl_X3_17 dX3_takeBack_33 ?_
    refine lv_iload_n cx.1 cx.2.1 dX3_takeBack_36 rfl (lv_at hl 0 rfl) ?_
    refine z_iald cx hp (zs_3_1 a0 (kt_lt ra0 (by decide)) ra0) rx5 dX3_takeBack_37 hf (fun x6 rx6 hf => ?_)
    refine lv_istore_n (lv' := [(3, .int (ii x6)), (2, .int (ii x5)), (0, .ref (B + a0)), (1, .ref (B + a1))]) cx.1 cx.2.1 dX3_takeBack_38 rfl hl (by decide) rfl (fun ls hl => ?_)
    refine lv_aload_n cx.1 cx.2.1 dX3_takeBack_39 rfl (lv_at hl 3 rfl) ?_
    refine lv_iload_n cx.1 cx.2.1 dX3_takeBack_40 rfl (lv_at hl 0 rfl) ?_
    refine z_aald1 cx hp ra1 rx6 dX3_takeBack_41 hf (fun x7 rx7 hf => ?_)
    refine lv_aload_n cx.1 cx.2.1 dX3_takeBack_42 rfl (lv_at hl 2 rfl) ?_
    refine z_gets cx hp (T := TX3) 3 0 (a0 + 1) rfl zin_3 (by decide) (by decide) ra0 rfl fl_X3_11 dX3_takeBack_43 ?_
    refine lv_iload_n cx.1 cx.2.1 dX3_takeBack_46 rfl (lv_at hl 1 rfl) ?_
    refine z_aald1 cx hp (zs_3_0 a0 (kt_lt ra0 (by decide)) ra0) rx5 dX3_takeBack_47 hf (fun x8 rx8 hf => ?_)
    refine z_cv cx hp (fun o' hx => zrunV (n := 2) (As := [.ref (B + x8)]) (rest := []) cx hp (mX0_copyFrom F l g B h x7 x8 rx7 rx8 o' hx) 0 rx7 (by decide) rfl vw_X0_copyFrom ml_X3_29 (by decide) rfl hl.1 rfl (Nat.le_of_ble_eq_true rfl) dX3_takeBack_48) hf (fun _ h H locs hp hf => ?_)
    refine lv_iload_n cx.1 cx.2.1 dX3_takeBack_51 rfl (lv_at hl 0 rfl) ?_
    rw [hQ]; exact z_iret cx hp rx6 dX3_takeBack_52 hf
