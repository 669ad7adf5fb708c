theorem dX1_hasRoom_0 : decode cX1_hasRoom 0 = .ok (.aload_n 0, 1) := by decide +kernel
theorem dX1_hasRoom_1 : decode cX1_hasRoom 1 = .ok (.getfield 21, 3) := by decide +kernel
theorem dX1_hasRoom_4 : decode cX1_hasRoom 4 = .ok (.iload_n 1, 1) := by decide +kernel
theorem dX1_hasRoom_5 : decode cX1_hasRoom 5 = .ok (.iadd, 1) := by decide +kernel
theorem dX1_hasRoom_6 : decode cX1_hasRoom 6 = .ok (.aload_n 0, 1) := by decide +kernel
theorem dX1_hasRoom_7 : decode cX1_hasRoom 7 = .ok (.getfield 15, 3) := by decide +kernel
theorem dX1_hasRoom_10 : decode cX1_hasRoom 10 = .ok (.arraylength, 1) := by decide +kernel
theorem dX1_hasRoom_11 : decode cX1_hasRoom 11 = .ok (.if_icmp .gt 7, 3) := by decide +kernel
theorem dX1_hasRoom_14 : decode cX1_hasRoom 14 = .ok (.iconst 1, 1) := by decide +kernel
theorem dX1_hasRoom_15 : decode cX1_hasRoom 15 = .ok (.goto 4, 3) := by decide +kernel
theorem dX1_hasRoom_18 : decode cX1_hasRoom 18 = .ok (.iconst 0, 1) := by decide +kernel
theorem dX1_hasRoom_19 : decode cX1_hasRoom 19 = .ok (.ireturn, 1) := by decide +kernel
def fX1_hasRoom (F : Nat) (a0 : Nat) (a1 : Int) (h : HF) : RO :=
  zgf h a0 1 fun x1 =>
  zjn (fun (y19_0 : Int) (h : HF) => (
    zrz y19_0 h
  )) fun j19 =>
  if (kl (a0 + 1) : Int) < wr (x1 + a1) then (
    j19 0 h
  ) else (
    j19 1 h
  )
set_option maxHeartbeats 4000000 in
set_option maxRecDepth 100000 in
theorem mX1_hasRoom (F : Nat) (l : Launch) (g : zG) (B : Nat) (h : HF) (a0 : Nat) (a1 : Int) (ra0 : kt a0 = 4) (ra1 : rng a1) : CTi l g B yX1_hasRoom cX1_hasRoom 2 (some .boolean) 0 [.ref (B + a0), .int (ii a1)] h (fX1_hasRoom F a0 a1 h) := by
  refine z_enterI (by decide) rfl (Nat.le_of_ble_eq_true rfl) ?_
  intro p e s m args below meth c ls o Q cx hp hl hf hQ
  have hl : lv_has ls 2 [(0, .ref (B + a0)), (1, .int (ii a1))] := hl
  unfold fX1_hasRoom at hf
  refine lv_aload_n cx.1 cx.2.1 dX1_hasRoom_0 rfl (lv_at hl 0 rfl) ?_
  refine z_geti cx hp (T := TX1) 1 1 rfl zin_1 (by decide) (by decide) ra0 rfl fl_X1_21 dX1_hasRoom_1 hf (fun x1 rx1 hf => ?_)
  refine lv_iload_n cx.1 cx.2.1 dX1_hasRoom_4 rfl (lv_at hl 1 rfl) ?_
  refine z_iadd cx dX1_hasRoom_5 ?_
  refine lv_aload_n cx.1 cx.2.1 dX1_hasRoom_6 rfl (lv_at hl 0 rfl) ?_
  refine z_gets cx hp (T := TX1) 1 0 (a0 + 1) rfl zin_1 (by decide) (by decide) ra0 rfl fl_X1_15 dX1_hasRoom_7 ?_
  refine z_alen cx hp (zs_1_0 a0 (kt_lt ra0 (by decide)) ra0) dX1_hasRoom_10 ?_
  refine z_jn hf (fun j => ∀ (y19_0 : Int) (h : HF) (H : Heap) (locs : List Loc) (ls : Array Slot), rng y19_0 → Hp g B s h H locs → lv_has ls 2 [] → j y19_0 h = some o → W p l e (rmn 0) s m args below meth c H locs 0 0 Q (F0 m 19 ls [.int (ii y19_0)])) ?_ (fun j19 hj19 hf => ?_)
  · intro y19_0 h H locs ls ry19_0 hp hl hf
    rw [hQ]; exact z_zret cx hp dX1_hasRoom_19 hf
  refine z_icmp_gt cx (rng_wr _) (rng_kl (zs_1_0 a0 (kt_lt ra0 (by decide)) ra0) (by decide)) (tgt := 18) dX1_hasRoom_11 (by decide) hf (fun _ hf => ?_) (fun _ hf => ?_)
  · refine z_iconst cx dX1_hasRoom_18 ?_
    exact hj19 0 h _ _ ls (by decide) hp (lv_sub hl [] rfl) hf
  · refine z_iconst cx dX1_hasRoom_14 ?_
    refine lv_goto (tgt := 19) cx.1 cx.2.1 dX1_hasRoom_15 (by decide) ?_
    exact hj19 1 h _ _ ls (by decide) hp (lv_sub hl [] rfl) hf
theorem dX1_addByte_0 : decode cX1_addByte 0 = .ok (.aload_n 0, 1) := by decide +kernel
theorem dX1_addByte_1 : decode cX1_addByte 1 = .ok (.iconst 1, 1) := by decide +kernel
theorem dX1_addByte_2 : decode cX1_addByte 2 = .ok (.invokevirtual 25, 3) := by decide +kernel
theorem dX1_addByte_5 : decode cX1_addByte 5 = .ok (.ifCond .eq 27, 3) := by decide +kernel
theorem dX1_addByte_8 : decode cX1_addByte 8 = .ok (.aload_n 0, 1) := by decide +kernel
theorem dX1_addByte_9 : decode cX1_addByte 9 = .ok (.getfield 15, 3) := by decide +kernel
theorem dX1_addByte_12 : decode cX1_addByte 12 = .ok (.aload_n 0, 1) := by decide +kernel
theorem dX1_addByte_13 : decode cX1_addByte 13 = .ok (.getfield 21, 3) := by decide +kernel
theorem dX1_addByte_16 : decode cX1_addByte 16 = .ok (.iload_n 1, 1) := by decide +kernel
theorem dX1_addByte_17 : decode cX1_addByte 17 = .ok (.sipush 255, 3) := by decide +kernel
theorem dX1_addByte_20 : decode cX1_addByte 20 = .ok (.iand, 1) := by decide +kernel
theorem dX1_addByte_21 : decode cX1_addByte 21 = .ok (.iastore, 1) := by decide +kernel
theorem dX1_addByte_22 : decode cX1_addByte 22 = .ok (.aload_n 0, 1) := by decide +kernel
theorem dX1_addByte_23 : decode cX1_addByte 23 = .ok (.dup, 1) := by decide +kernel
theorem dX1_addByte_24 : decode cX1_addByte 24 = .ok (.getfield 21, 3) := by decide +kernel
theorem dX1_addByte_27 : decode cX1_addByte 27 = .ok (.iconst 1, 1) := by decide +kernel
theorem dX1_addByte_28 : decode cX1_addByte 28 = .ok (.iadd, 1) := by decide +kernel
theorem dX1_addByte_29 : decode cX1_addByte 29 = .ok (.putfield 21, 3) := by decide +kernel
theorem dX1_addByte_32 : decode cX1_addByte 32 = .ok (.return_, 1) := by decide +kernel
def fX1_addByte (F : Nat) (a0 : Nat) (a1 : Int) (h : HF) : RO :=
  zbd (fX1_hasRoom F a0 1 h) fun r1 h =>
  zjn (fun  (h : HF) => (
    some (0, h)
  )) fun j32 =>
  if r1 = 0 then (
    j32  h
  ) else (
    zgf h a0 1 fun x2 =>
    zwr h (a0 + 1) x2 (wand a1 255) fun h =>
    zgf h a0 1 fun x3 =>
    zpf h a0 1 (wr (x3 + 1)) fun h =>
    j32  h
  )
set_option maxHeartbeats 4000000 in
set_option maxRecDepth 100000 in
theorem mX1_addByte (F : Nat) (l : Launch) (g : zG) (B : Nat) (h : HF) (a0 : Nat) (a1 : Int) (ra0 : kt a0 = 4) (ra1 : rng a1) : CTv l g B yX1_addByte cX1_addByte 2 1 [.ref (B + a0), .int (ii a1)] h (fX1_addByte F a0 a1 h) := by
  refine z_enterV (by decide) rfl (Nat.le_of_ble_eq_true rfl) ?_
  intro p e s m args below meth c ls o Q cx hp hl hf hQ
  have hl : lv_has ls 2 [(0, .ref (B + a0)), (1, .int (ii a1))] := hl
  unfold fX1_addByte at hf
  refine lv_aload_n cx.1 cx.2.1 dX1_addByte_0 rfl (lv_at hl 0 rfl) ?_
  refine z_iconst cx dX1_addByte_1 ?_
  refine z_ci cx hp (fun o' hx => zrunV (n := 1) (As := [.int (ii 1)]) (rest := []) cx hp (mX1_hasRoom F l g B h a0 1 ra0 (by decide) o' hx) 1 ra0 (by decide) rfl vw_X1_hasRoom ml_X1_25 (by decide) rfl hl.1 rfl (Nat.le_of_ble_eq_true rfl) dX1_addByte_2) hf (fun r1 h H locs rr1 hp hf => ?_)
  refine z_jn hf (fun j => ∀  (h : HF) (H : Heap) (locs : List Loc) (ls : Array Slot), Hp g B s h H locs → lv_has ls 2 [] → j  h = some o → W p l e (rmn 1) s m args below meth c H locs 0 0 Q (F0 m 32 ls [])) ?_ (fun j32 hj32 hf => ?_)
  · intro  h H locs ls  hp hl hf
    rw [hQ]; exact z_vret cx hp dX1_addByte_32 hf
  refine z_if_eq cx rr1 (tgt := 32) dX1_addByte_5 (by decide) hf (fun _ hf => ?_) (fun _ hf => ?_)
  · exact hj32  h _ _ ls  hp (lv_sub hl [] rfl) hf
  · refine lv_aload_n cx.1 cx.2.1 dX1_addByte_8 rfl (lv_at hl 0 rfl) ?_
    refine z_gets cx hp (T := TX1) 1 0 (a0 + 1) rfl zin_1 (by decide) (by decide) ra0 rfl fl_X1_15 dX1_addByte_9 ?_
    refine lv_aload_n cx.1 cx.2.1 dX1_addByte_12 rfl (lv_at hl 0 rfl) ?_
    refine z_geti cx hp (T := TX1) 1 1 rfl zin_1 (by decide) (by decide) ra0 rfl fl_X1_21 dX1_addByte_13 hf (fun x2 rx2 hf => ?_)
    refine lv_iload_n cx.1 cx.2.1 dX1_addByte_16 rfl (lv_at hl 1 rfl) ?_
    refine z_sipush cx (by decide) dX1_addByte_17 ?_
    refine z_iand cx dX1_addByte_20 ?_
    refine z_iast cx hp (zs_1_0 a0 (kt_lt ra0 (by decide)) ra0) rx2 (rng_and _ _) dX1_addByte_21 hf (fun h H locs hp hf => ?_)
    refine lv_aload_n cx.1 cx.2.1 dX1_addByte_22 rfl (lv_at hl 0 rfl) ?_
    refine lv_dup cx.1 cx.2.1 dX1_addByte_23 rfl ?_
    refine z_geti cx hp (T := TX1) 1 1 rfl zin_1 (by decide) (by decide) ra0 rfl fl_X1_21 dX1_addByte_24 hf (fun x3 rx3 hf => ?_)
    refine z_iconst cx dX1_addByte_27 ?_
    refine z_iadd cx dX1_addByte_28 ?_
    refine z_puti cx hp (T := TX1) tyX1 tyX1_ok nmX1 1 1 (rng_wr _) rfl zin_1 (by decide) (by decide) ra0 rfl rfl rfl fl_X1_21 dX1_addByte_29 hf (fun h H locs hp hf => ?_)
    exact hj32  h _ _ ls  hp (lv_sub hl [] rfl) hf
theorem dX1_addNumber_0 : decode cX1_addNumber 0 = .ok (.bipush 24, 2) := by decide +kernel
theorem dX1_addNumber_2 : decode cX1_addNumber 2 = .ok (.istore_n 2, 1) := by decide +kernel
theorem dX1_addNumber_3 : decode cX1_addNumber 3 = .ok (.iload_n 2, 1) := by decide +kernel
theorem dX1_addNumber_4 : decode cX1_addNumber 4 = .ok (.ifCond .lt 16, 3) := by decide +kernel
theorem dX1_addNumber_7 : decode cX1_addNumber 7 = .ok (.aload_n 0, 1) := by decide +kernel
theorem dX1_addNumber_8 : decode cX1_addNumber 8 = .ok (.iload_n 1, 1) := by decide +kernel
theorem dX1_addNumber_9 : decode cX1_addNumber 9 = .ok (.iload_n 2, 1) := by decide +kernel
theorem dX1_addNumber_10 : decode cX1_addNumber 10 = .ok (.iushr, 1) := by decide +kernel
theorem dX1_addNumber_11 : decode cX1_addNumber 11 = .ok (.invokevirtual 29, 3) := by decide +kernel
theorem dX1_addNumber_14 : decode cX1_addNumber 14 = .ok (.iinc 2 (-8), 3) := by decide +kernel
theorem dX1_addNumber_17 : decode cX1_addNumber 17 = .ok (.goto (-14), 3) := by decide +kernel
theorem dX1_addNumber_20 : decode cX1_addNumber 20 = .ok (.return_, 1) := by decide +kernel
def LX1_addNumber_3 (F : Nat) (u0 : Nat) (u1 : Int) (k20 : HF → RO) : Nat → Int → HF → RO
  | 0, _, _ => none
  | n + 1, v2, h =>
    if v2 < 0 then (
      k20  h
    ) else (
      zbd (fX1_addByte F u0 (wushr u1 v2) h) fun _ h =>
      zlet (wr (v2 + (-8))) fun x2 =>
      LX1_addNumber_3 F u0 u1 k20 n x2 h
    )
set_option maxHeartbeats 4000000 in
set_option maxRecDepth 100000 in
theorem wX1_addNumber_3 {p : Program} {l : Launch} {e : Env} {s : State} {m : MethodId} {args : Array Value} {below : List Frame} {meth : Method} {c : Code} {Q : State → Prop} {g : zG} {B : Nat} {o : Int × HF} (F : Nat) (cx : Cx p s m args meth c cX1_addNumber 3 RX1 none g) (u0 : Nat) (ru0 : kt u0 = 4) (u1 : Int) (ru1 : rng u1) (k20 : HF → RO) (hk20 : ∀  (h : HF) (H : Heap) (locs : List Loc) (ls : Array Slot), Hp g B s h H locs → lv_has ls 3 [] → k20  h = some o → W p l e (rmn 2) s m args below meth c H locs 0 0 Q (F0 m 20 ls [])) : ∀ (n : Nat) (v2 : Int) (h : HF) (H : Heap) (locs : List Loc) (ls : Array Slot), rng v2 → Hp g B s h H locs → lv_has ls 3 [(0, .ref (B + u0)), (1, .int (ii u1)), (2, .int (ii v2))] → LX1_addNumber_3 F u0 u1 k20 n v2 h = some o → W p l e (rmn 2) s m args below meth c H locs 0 0 Q (F0 m 3 ls []) := by
  intro n
  induction n with
  | zero =>
    intro v2 h H locs ls rv2 hp hl hf
    cases hf
  | succ n ih =>
    intro v2 h H locs ls rv2 hp hl hf
    rw [LX1_addNumber_3] at hf
    refine lv_iload_n cx.1 cx.2.1 dX1_addNumber_3 rfl (lv_at hl 2 rfl) ?_
    refine z_if_lt cx rv2 (tgt := 20) dX1_addNumber_4 (by decide) hf (fun _ hf => ?_) (fun _ hf => ?_)
    · exact hk20  h _ _ ls  hp (lv_sub hl [] rfl) hf
    · refine lv_aload_n cx.1 cx.2.1 dX1_addNumber_7 rfl (lv_at hl 0 rfl) ?_
      refine lv_iload_n cx.1 cx.2.1 dX1_addNumber_8 rfl (lv_at hl 1 rfl) ?_
      refine lv_iload_n cx.1 cx.2.1 dX1_addNumber_9 rfl (lv_at hl 2 rfl) ?_
      refine z_iushr cx dX1_addNumber_10 ?_
      refine z_cv cx hp (fun o' hx => zrunV (n := 2) (As := [.int (ii (wushr u1 v2))]) (rest := []) cx hp (mX1_addByte F l g B h u0 (wushr u1 v2) ru0 (rng_ushr _ _) o' hx) 1 ru0 (by decide) rfl vw_X1_addByte ml_X1_29 (by decide) rfl hl.1 rfl (Nat.le_of_ble_eq_true rfl) dX1_addNumber_11) hf (fun _ h H locs hp hf => ?_)
      refine z_iinc cx (fun x2 => [(2, .int (ii x2)), (0, .ref (B + u0)), (1, .int (ii u1))]) dX1_addNumber_14 hl (k := 2) rfl (by decide) (fun _ => rfl) hf (fun x2 rx2 hf ls hl => ?_)
      refine lv_goto (tgt := 3) cx.1 cx.2.1 dX1_addNumber_17 (by decide) ?_
      exact ih x2 h _ _ ls rx2 hp (lv_sub hl [1, 2, 0] rfl) hf
def fX1_addNumber (F : Nat) (a0 : Nat) (a1 : Int) (h : HF) : RO :=
  zjn (fun  (h : HF) => (
    some (0, h)
  )) fun j20 =>
  LX1_addNumber_3 F a0 a1 j20 F 24 h
set_option maxHeartbeats 4000000 in
set_option maxRecDepth 100000 in
theorem mX1_addNumber (F : Nat) (l : Launch) (g : zG) (B : Nat) (h : HF) (a0 : Nat) (a1 : Int) (ra0 : kt a0 = 4) (ra1 : rng a1) : CTv l g B yX1_addNumber cX1_addNumber 3 2 [.ref (B + a0), .int (ii a1)] h (fX1_addNumber F a0 a1 h) := by
  refine z_enterV (by decide) rfl (Nat.le_of_ble_eq_true rfl) ?_
  intro p e s m args below meth c ls o Q cx hp hl hf hQ
  have hl : lv_has ls 3 [(0, .ref (B + a0)), (1, .int (ii a1))] := hl
  unfold fX1_addNumber at hf
  refine z_bipush cx (by decide) dX1_addNumber_0 ?_
  refine lv_istore_n (lv' := [(2, .int (ii 24)), (0, .ref (B + a0)), (1, .int (ii a1))]) cx.1 cx.2.1 dX1_addNumber_2 rfl hl (by decide) rfl (fun ls hl => ?_)
  refine z_jn hf (fun j => ∀  (h : HF) (H : Heap) (locs : List Loc) (ls : Array Slot), Hp g B s h H locs → lv_has ls 3 [] → j  h = some o → W p l e (rmn 2) s m args below meth c H locs 0 0 Q (F0 m 20 ls [])) ?_ (fun j20 hj20 hf => ?_)
  · intro  h H locs ls  hp hl hf
    rw [hQ]; exact z_vret cx hp dX1_addNumber_20 hf
  exact wX1_addNumber_3 F cx a0 ra0 a1 ra1 j20 hj20 F 24 h _ _ ls (by decide) hp (lv_sub hl [1, 2, 0] rfl) hf
theorem dX1_byteAt_0 : decode cX1_byteAt 0 = .ok (.iload_n 1, 1) := by decide +kernel
theorem dX1_byteAt_1 : decode cX1_byteAt 1 = .ok (.ifCond .lt 11, 3) := by decide +kernel
theorem dX1_byteAt_4 : decode cX1_byteAt 4 = .ok (.iload_n 1, 1) := by decide +kernel
theorem dX1_byteAt_5 : decode cX1_byteAt 5 = .ok (.aload_n 0, 1) := by decide +kernel
theorem dX1_byteAt_6 : decode cX1_byteAt 6 = .ok (.getfield 21, 3) := by decide +kernel
theorem dX1_byteAt_9 : decode cX1_byteAt 9 = .ok (.if_icmp .lt 7, 3) := by decide +kernel
theorem dX1_byteAt_16 : decode cX1_byteAt 16 = .ok (.aload_n 0, 1) := by decide +kernel
theorem dX1_byteAt_17 : decode cX1_byteAt 17 = .ok (.getfield 15, 3) := by decide +kernel
theorem dX1_byteAt_20 : decode cX1_byteAt 20 = .ok (.iload_n 1, 1) := by decide +kernel
theorem dX1_byteAt_21 : decode cX1_byteAt 21 = .ok (.iaload, 1) := by decide +kernel
theorem dX1_byteAt_12 : decode cX1_byteAt 12 = .ok (.iconst (-1), 1) := by decide +kernel
theorem dX1_byteAt_13 : decode cX1_byteAt 13 = .ok (.goto 9, 3) := by decide +kernel
theorem dX1_byteAt_22 : decode cX1_byteAt 22 = .ok (.ireturn, 1) := by decide +kernel
def fX1_byteAt (F : Nat) (a0 : Nat) (a1 : Int) (h : HF) : RO :=
  zjn (fun (y22_0 : Int) (h : HF) => (
    some (y22_0, h)
  )) fun j22 =>
  zjn (fun  (h : HF) => (
    j22 (-1) h
  )) fun j12 =>
  if a1 < 0 then (
    j12  h
  ) else (
    zgf h a0 1 fun x1 =>
    if a1 < x1 then (
      zrd h (a0 + 1) a1 fun x2 =>
      j22 x2 h
    ) else (
      j12  h
    )
  )
set_option maxHeartbeats 4000000 in
set_option maxRecDepth 100000 in
theorem mX1_byteAt (F : Nat) (l : Launch) (g : zG) (B : Nat) (h : HF) (a0 : Nat) (a1 : Int) (ra0 : kt a0 = 4) (ra1 : rng a1) : CTi l g B yX1_byteAt cX1_byteAt 2 (some .int) 0 [.ref (B + a0), .int (ii a1)] h (fX1_byteAt F a0 a1 h) := by
  refine z_enterI (by decide) rfl (Nat.le_of_ble_eq_true rfl) ?_
  intro p e s m args below meth c ls o Q cx hp hl hf hQ
  have hl : lv_has ls 2 [(0, .ref (B + a0)), (1, .int (ii a1))] := hl
  unfold fX1_byteAt at hf
  refine lv_iload_n cx.1 cx.2.1 dX1_byteAt_0 rfl (lv_at hl 1 rfl) ?_
  refine z_jn hf (fun j => ∀ (y22_0 : Int) (h : HF) (H : Heap) (locs : List Loc) (ls : Array Slot), rng y22_0 → Hp g B s h H locs → lv_has ls 2 [] → j y22_0 h = some o → W p l e (rmn 0) s m args below meth c H locs 0 0 Q (F0 m 22 ls [.int (ii y22_0)])) ?_ (fun j22 hj22 hf => ?_)
  · intro y22_0 h H locs ls ry22_0 hp hl hf
    rw [hQ]; exact z_iret cx hp ry22_0 dX1_byteAt_22 hf
  refine z_jn hf (fun j => ∀  (h : HF) (H : Heap) (locs : List Loc) (ls : Array Slot), Hp g B s h H locs → lv_has ls 2 [] → j  h = some o → W p l e (rmn 0) s m args below meth c H locs 0 0 Q (F0 m 12 ls [])) ?_ (fun j12 hj12 hf => ?_)
  · intro  h H locs ls  hp hl hf
    refine z_iconst cx dX1_byteAt_12 ?_
    refine lv_goto (tgt := 22) cx.1 cx.2.1 dX1_byteAt_13 (by decide) ?_
    exact hj22 (-1) h _ _ ls (by decide) hp (lv_sub hl [] rfl) hf
  refine z_if_lt cx ra1 (tgt := 12) dX1_byteAt_1 (by decide) hf (fun _ hf => ?_) (fun _ hf => ?_)
  · exact hj12  h _ _ ls  hp (lv_sub hl [] rfl) hf
  · refine lv_iload_n cx.1 cx.2.1 dX1_byteAt_4 rfl (lv_at hl 1 rfl) ?_
    refine lv_aload_n cx.1 cx.2.1 dX1_byteAt_5 rfl (lv_at hl 0 rfl) ?_
    refine z_geti cx hp (T := TX1) 1 1 rfl zin_1 (by decide) (by decide) ra0 rfl fl_X1_21 dX1_byteAt_6 hf (fun x1 rx1 hf => ?_)
    refine z_icmp_lt cx ra1 rx1 (tgt := 16) dX1_byteAt_9 (by decide) hf (fun _ hf => ?_) (fun _ hf => ?_)
    · refine lv_aload_n cx.1 cx.2.1 dX1_byteAt_16 rfl (lv_at hl 0 rfl) ?_
      refine z_gets cx hp (T := TX1) 1 0 (a0 + 1) rfl zin_1 (by decide) (by decide) ra0 rfl fl_X1_15 dX1_byteAt_17 ?_
      refine lv_iload_n cx.1 cx.2.1 dX1_byteAt_20 rfl (lv_at hl 1 rfl) ?_
      refine z_iald cx hp (zs_1_0 a0 (kt_lt ra0 (by decide)) ra0) ra1 dX1_byteAt_21 hf (fun x2 rx2 hf => ?_)
      exact hj22 x2 h _ _ ls rx2 hp (lv_sub hl [] rfl) hf
    · exact hj12  h _ _ ls  hp (lv_sub hl [] rfl) hf
theorem dX0_isHeld_0 : decode cX0_isHeld 0 = .ok (.aload_n 0, 1) := by decide +kernel
theorem dX0_isHeld_1 : decode cX0_isHeld 1 = .ok (.getfield 21, 3) := by decide +kernel
theorem dX0_isHeld_4 : decode cX0_isHeld 4 = .ok (.ifCond .le 7, 3) := by decide +kernel
theorem dX0_isHeld_7 : decode cX0_isHeld 7 = .ok (.iconst 1, 1) := by decide +kernel
theorem dX0_isHeld_8 : decode cX0_isHeld 8 = .ok (.goto 4, 3) := by decide +kernel
theorem dX0_isHeld_11 : decode cX0_isHeld 11 = .ok (.iconst 0, 1) := by decide +kernel
theorem dX0_isHeld_12 : decode cX0_isHeld 12 = .ok (.ireturn, 1) := by decide +kernel
def fX0_isHeld (F : Nat) (a0 : Nat) (h : HF) : RO :=
  zgf h a0 0 fun x1 =>
  zjn (fun (y12_0 : Int) (h : HF) => (
    zrz y12_0 h
  )) fun j12 =>
  if 0 < x1 then (
    j12 1 h
  ) else (
    j12 0 h
  )
set_option maxHeartbeats 4000000 in
set_option maxRecDepth 100000 in
theorem mX0_isHeld (F : Nat) (l : Launch) (g : zG) (B : Nat) (h : HF) (a0 : Nat) (ra0 : kt a0 = 3) : CTi l g B yX0_isHeld cX0_isHeld 1 (some .boolean) 0 [.ref (B + a0)] h (fX0_isHeld F a0 h) := by
  refine z_enterI (by decide) rfl (Nat.le_of_ble_eq_true rfl) ?_
  intro p e s m args below meth c ls o Q cx hp hl hf hQ
  have hl : lv_has ls 1 [(0, .ref (B + a0))] := hl
  unfold fX0_isHeld at hf
  refine lv_aload_n cx.1 cx.2.1 dX0_isHeld_0 rfl (lv_at hl 0 rfl) ?_
  refine z_geti cx hp (T := TX0) 0 0 rfl zin_0 (by decide) (by decide) ra0 rfl fl_X0_21 dX0_isHeld_1 hf (fun x1 rx1 hf => ?_)
  refine z_jn hf (fun j => ∀ (y12_0 : Int) (h : HF) (H : Heap) (locs : List Loc) (ls : Array Slot), rng y12_0 → Hp g B s h H locs → lv_has ls 1 [] → j y12_0 h = some o → W p l e (rmn 0) s m args below meth c H locs 0 0 Q (F0 m 12 ls [.int (ii y12_0)])) ?_ (fun j12 hj12 hf => ?_)
  · intro y12_0 h H locs ls ry12_0 hp hl hf
    rw [hQ]; exact z_zret cx hp dX0_isHeld_12 hf
  refine z_if_le cx rx1 (tgt := 11) dX0_isHeld_4 (by decide) hf (fun _ hf => ?_) (fun _ hf => ?_)
  · refine z_iconst cx dX0_isHeld_7 ?_
    refine lv_goto (tgt := 12) cx.1 cx.2.1 dX0_isHeld_8 (by decide) ?_
    exact hj12 1 h _ _ ls (by decide) hp (lv_sub hl [] rfl) hf
  · refine z_iconst cx dX0_isHeld_11 ?_
    exact hj12 0 h _ _ ls (by decide) hp (lv_sub hl [] rfl) hf
theorem dX0_begin_0 : decode cX0_begin 0 = .ok (.aload_n 0, 1) := by decide +kernel
theorem dX0_begin_1 : decode cX0_begin 1 = .ok (.iload_n 1, 1) := by decide +kernel
theorem dX0_begin_2 : decode cX0_begin 2 = .ok (.putfield 21, 3) := by decide +kernel
theorem dX0_begin_5 : decode cX0_begin 5 = .ok (.aload_n 0, 1) := by decide +kernel
theorem dX0_begin_6 : decode cX0_begin 6 = .ok (.iconst 0, 1) := by decide +kernel
theorem dX0_begin_7 : decode cX0_begin 7 = .ok (.putfield 29, 3) := by decide +kernel
theorem dX0_begin_10 : decode cX0_begin 10 = .ok (.aload_n 0, 1) := by decide +kernel
theorem dX0_begin_11 : decode cX0_begin 11 = .ok (.iconst 0, 1) := by decide +kernel
theorem dX0_begin_12 : decode cX0_begin 12 = .ok (.putfield 32, 3) := by decide +kernel
theorem dX0_begin_15 : decode cX0_begin 15 = .ok (.return_, 1) := by decide +kernel
def fX0_begin (F : Nat) (a0 : Nat) (a1 : Int) (h : HF) : RO :=
  zpf h a0 0 a1 fun h =>
  zpf h a0 1 0 fun h =>
  zpf h a0 2 0 fun h =>
  some (0, h)
set_option maxHeartbeats 4000000 in
set_option maxRecDepth 100000 in
theorem mX0_begin (F : Nat) (l : Launch) (g : zG) (B : Nat) (h : HF) (a0 : Nat) (a1 : Int) (ra0 : kt a0 = 3) (ra1 : rng a1) : CTv l g B yX0_begin cX0_begin 2 0 [.ref (B + a0), .int (ii a1)] h (fX0_begin F a0 a1 h) := by
  refine z_enterV (by decide) rfl (Nat.le_of_ble_eq_true rfl) ?_
  intro p e s m args below meth c ls o Q cx hp hl hf hQ
  have hl : lv_has ls 2 [(0, .ref (B + a0)), (1, .int (ii a1))] := hl
  unfold fX0_begin at hf
  refine lv_aload_n cx.1 cx.2.1 dX0_begin_0 rfl (lv_at hl 0 rfl) ?_
  refine lv_iload_n cx.1 cx.2.1 dX0_begin_1 rfl (lv_at hl 1 rfl) ?_
  refine z_puti cx hp (T := TX0) tyX0 tyX0_ok nmX0 0 0 ra1 rfl zin_0 (by decide) (by decide) ra0 rfl rfl rfl fl_X0_21 dX0_begin_2 hf (fun h H locs hp hf => ?_)
  refine lv_aload_n cx.1 cx.2.1 dX0_begin_5 rfl (lv_at hl 0 rfl) ?_
  refine z_iconst cx dX0_begin_6 ?_
  refine z_puti cx hp (T := TX0) tyX0 tyX0_ok nmX0 0 1 (by decide) rfl zin_0 (by decide) (by decide) ra0 rfl rfl rfl fl_X0_29 dX0_begin_7 hf (fun h H locs hp hf => ?_)
  refine lv_aload_n cx.1 cx.2.1 dX0_begin_10 rfl (lv_at hl 0 rfl) ?_
  refine z_iconst cx dX0_begin_11 ?_
  refine z_puti cx hp (T := TX0) tyX0 tyX0_ok nmX0 0 2 (by decide) rfl zin_0 (by decide) (by decide) ra0 rfl rfl rfl fl_X0_32 dX0_begin_12 hf (fun h H locs hp hf => ?_)
  rw [hQ]; exact z_vret cx hp dX0_begin_15 hf
theorem dX0_cellCount_0 : decode cX0_cellCount 0 = .ok (.aload_n 0, 1) := by decide +kernel
theorem dX0_cellCount_1 : decode cX0_cellCount 1 = .ok (.getfield 15, 3) := by decide +kernel
theorem dX0_cellCount_4 : decode cX0_cellCount 4 = .ok (.aload_n 0, 1) := by decide +kernel
theorem dX0_cellCount_5 : decode cX0_cellCount 5 = .ok (.getfield 29, 3) := by decide +kernel
theorem dX0_cellCount_8 : decode cX0_cellCount 8 = .ok (.iaload, 1) := by decide +kernel
theorem dX0_cellCount_9 : decode cX0_cellCount 9 = .ok (.ireturn, 1) := by decide +kernel
def fX0_cellCount (F : Nat) (a0 : Nat) (h : HF) : RO :=
  zgf h a0 1 fun x1 =>
  zrd h (a0 + 2) x1 fun x2 =>
  some (x2, h)
set_option maxHeartbeats 4000000 in
set_option maxRecDepth 100000 in
theorem mX0_cellCount (F : Nat) (l : Launch) (g : zG) (B : Nat) (h : HF) (a0 : Nat) (ra0 : kt a0 = 3) : CTi l g B yX0_cellCount cX0_cellCount 1 (some .int) 0 [.ref (B + a0)] h (fX0_cellCount F a0 h) := by
  refine z_enterI (by decide) rfl (Nat.le_of_ble_eq_true rfl) ?_
  intro p e s m args below meth c ls o Q cx hp hl hf hQ
  have hl : lv_has ls 1 [(0, .ref (B + a0))] := hl
  unfold fX0_cellCount at hf
  refine lv_aload_n cx.1 cx.2.1 dX0_cellCount_0 rfl (lv_at hl 0 rfl) ?_
  refine z_gets cx hp (T := TX0) 0 4 (a0 + 2) rfl zin_0 (by decide) (by decide) ra0 rfl fl_X0_15 dX0_cellCount_1 ?_
  refine lv_aload_n cx.1 cx.2.1 dX0_cellCount_4 rfl (lv_at hl 0 rfl) ?_
  refine z_geti cx hp (T := TX0) 0 1 rfl zin_0 (by decide) (by decide) ra0 rfl fl_X0_29 dX0_cellCount_5 hf (fun x1 rx1 hf => ?_)
  refine z_iald cx hp (zs_0_4 a0 (kt_lt ra0 (by decide)) ra0) rx1 dX0_cellCount_8 hf (fun x2 rx2 hf => ?_)
  rw [hQ]; exact z_iret cx hp rx2 dX0_cellCount_9 hf
theorem dX0_rows_0 : decode cX0_rows 0 = .ok (.aload_n 0, 1) := by decide +kernel
theorem dX0_rows_1 : decode cX0_rows 1 = .ok (.getfield 9, 3) := by decide +kernel
theorem dX0_rows_4 : decode cX0_rows 4 = .ok (.iload_n 1, 1) := by decide +kernel
theorem dX0_rows_5 : decode cX0_rows 5 = .ok (.iaload, 1) := by decide +kernel
theorem dX0_rows_6 : decode cX0_rows 6 = .ok (.ifCond .ne 7, 3) := by decide +kernel
theorem dX0_rows_9 : decode cX0_rows 9 = .ok (.iconst 1, 1) := by decide +kernel
theorem dX0_rows_10 : decode cX0_rows 10 = .ok (.goto 7, 3) := by decide +kernel
theorem dX0_rows_13 : decode cX0_rows 13 = .ok (.aload_n 0, 1) := by decide +kernel
theorem dX0_rows_14 : decode cX0_rows 14 = .ok (.getfield 21, 3) := by decide +kernel
theorem dX0_rows_17 : decode cX0_rows 17 = .ok (.ireturn, 1) := by decide +kernel
def fX0_rows (F : Nat) (a0 : Nat) (a1 : Int) (h : HF) : RO :=
  zrd h (a0 + 1) a1 fun x1 =>
  zjn (fun (y17_0 : Int) (h : HF) => (
    some (y17_0, h)
  )) fun j17 =>
  if x1 = 0 then (
    j17 1 h
  ) else (
    zgf h a0 0 fun x2 =>
    j17 x2 h
  )
set_option maxHeartbeats 4000000 in
set_option maxRecDepth 100000 in
theorem mX0_rows (F : Nat) (l : Launch) (g : zG) (B : Nat) (h : HF) (a0 : Nat) (a1 : Int) (ra0 : kt a0 = 3) (ra1 : rng a1) : CTi l g B yX0_rows cX0_rows 2 (some .int) 0 [.ref (B + a0), .int (ii a1)] h (fX0_rows F a0 a1 h) := by
  refine z_enterI (by decide) rfl (Nat.le_of_ble_eq_true rfl) ?_
  intro p e s m args below meth c ls o Q cx hp hl hf hQ
  have hl : lv_has ls 2 [(0, .ref (B + a0)), (1, .int (ii a1))] := hl
  unfold fX0_rows at hf
  refine lv_aload_n cx.1 cx.2.1 dX0_rows_0 rfl (lv_at hl 0 rfl) ?_
  refine z_gets cx hp (T := TX0) 0 3 (a0 + 1) rfl zin_0 (by decide) (by decide) ra0 rfl fl_X0_9 dX0_rows_1 ?_
  refine lv_iload_n cx.1 cx.2.1 dX0_rows_4 rfl (lv_at hl 1 rfl) ?_
  refine z_iald cx hp (zs_0_3 a0 (kt_lt ra0 (by decide)) ra0) ra1 dX0_rows_5 hf (fun x1 rx1 hf => ?_)
  refine z_jn hf (fun j => ∀ (y17_0 : Int) (h : HF) (H : Heap) (locs : List Loc) (ls : Array Slot), rng y17_0 → Hp g B s h H locs → lv_has ls 2 [] → j y17_0 h = some o → W p l e (rmn 0) s m args below meth c H locs 0 0 Q (F0 m 17 ls [.int (ii y17_0)])) ?_ (fun j17 hj17 hf => ?_)
  · intro y17_0 h H locs ls ry17_0 hp hl hf
    rw [hQ]; exact z_iret cx hp ry17_0 dX0_rows_17 hf
  refine z_if_ne cx rx1 (tgt := 13) dX0_rows_6 (by decide) hf (fun _ hf => ?_) (fun _ hf => ?_)
  · refine z_iconst cx dX0_rows_9 ?_
    refine lv_goto (tgt := 17) cx.1 cx.2.1 dX0_rows_10 (by decide) ?_
    exact hj17 1 h _ _ ls (by decide) hp (lv_sub hl [] rfl) hf
  · refine lv_aload_n cx.1 cx.2.1 dX0_rows_13 rfl (lv_at hl 0 rfl) ?_
    refine z_geti cx hp (T := TX0) 0 0 rfl zin_0 (by decide) (by decide) ra0 rfl fl_X0_21 dX0_rows_14 hf (fun x2 rx2 hf => ?_)
    exact hj17 x2 h _ _ ls rx2 hp (lv_sub hl [] rfl) hf
theorem dX0_columns_0 : decode cX0_columns 0 = .ok (.aload_n 0, 1) := by decide +kernel
theorem dX0_columns_1 : decode cX0_columns 1 = .ok (.getfield 9, 3) := by decide +kernel
theorem dX0_columns_4 : decode cX0_columns 4 = .ok (.iload_n 1, 1) := by decide +kernel
theorem dX0_columns_5 : decode cX0_columns 5 = .ok (.iaload, 1) := by decide +kernel
theorem dX0_columns_6 : decode cX0_columns 6 = .ok (.iconst 2, 1) := by decide +kernel
theorem dX0_columns_7 : decode cX0_columns 7 = .ok (.if_icmp .ne 10, 3) := by decide +kernel
theorem dX0_columns_10 : decode cX0_columns 10 = .ok (.aload_n 0, 1) := by decide +kernel
theorem dX0_columns_11 : decode cX0_columns 11 = .ok (.getfield 21, 3) := by decide +kernel
theorem dX0_columns_14 : decode cX0_columns 14 = .ok (.goto 4, 3) := by decide +kernel
theorem dX0_columns_17 : decode cX0_columns 17 = .ok (.iconst 1, 1) := by decide +kernel
theorem dX0_columns_18 : decode cX0_columns 18 = .ok (.ireturn, 1) := by decide +kernel
def fX0_columns (F : Nat) (a0 : Nat) (a1 : Int) (h : HF) : RO :=
  zrd h (a0 + 1) a1 fun x1 =>
  zjn (fun (y18_0 : Int) (h : HF) => (
    some (y18_0, h)
  )) fun j18 =>
  if x1 = 2 then (
    zgf h a0 0 fun x2 =>
    j18 x2 h
  ) else (
    j18 1 h
  )
set_option maxHeartbeats 4000000 in
set_option maxRecDepth 100000 in
theorem mX0_columns (F : Nat) (l : Launch) (g : zG) (B : Nat) (h : HF) (a0 : Nat) (a1 : Int) (ra0 : kt a0 = 3) (ra1 : rng a1) : CTi l g B yX0_columns cX0_columns 2 (some .int) 0 [.ref (B + a0), .int (ii a1)] h (fX0_columns F a0 a1 h) := by
  refine z_enterI (by decide) rfl (Nat.le_of_ble_eq_true rfl) ?_
  intro p e s m args below meth c ls o Q cx hp hl hf hQ
  have hl : lv_has ls 2 [(0, .ref (B + a0)), (1, .int (ii a1))] := hl
  unfold fX0_columns at hf
  refine lv_aload_n cx.1 cx.2.1 dX0_columns_0 rfl (lv_at hl 0 rfl) ?_
  refine z_gets cx hp (T := TX0) 0 3 (a0 + 1) rfl zin_0 (by decide) (by decide) ra0 rfl fl_X0_9 dX0_columns_1 ?_
  refine lv_iload_n cx.1 cx.2.1 dX0_columns_4 rfl (lv_at hl 1 rfl) ?_
  refine z_iald cx hp (zs_0_3 a0 (kt_lt ra0 (by decide)) ra0) ra1 dX0_columns_5 hf (fun x1 rx1 hf => ?_)
  refine z_iconst cx dX0_columns_6 ?_
  refine z_jn hf (fun j => ∀ (y18_0 : Int) (h : HF) (H : Heap) (locs : List Loc) (ls : Array Slot), rng y18_0 → Hp g B s h H locs → lv_has ls 2 [] → j y18_0 h = some o → W p l e (rmn 0) s m args below meth c H locs 0 0 Q (F0 m 18 ls [.int (ii y18_0)])) ?_ (fun j18 hj18 hf => ?_)
  · intro y18_0 h H locs ls ry18_0 hp hl hf
    rw [hQ]; exact z_iret cx hp ry18_0 dX0_columns_18 hf
  refine z_icmp_ne cx rx1 (by decide) (tgt := 17) dX0_columns_7 (by decide) hf (fun _ hf => ?_) (fun _ hf => ?_)
  · refine lv_aload_n cx.1 cx.2.1 dX0_columns_10 rfl (lv_at hl 0 rfl) ?_
    refine z_geti cx hp (T := TX0) 0 0 rfl zin_0 (by decide) (by decide) ra0 rfl fl_X0_21 dX0_columns_11 hf (fun x2 rx2 hf => ?_)
    refine lv_goto (tgt := 18) cx.1 cx.2.1 dX0_columns_14 (by decide) ?_
    exact hj18 x2 h _ _ ls rx2 hp (lv_sub hl [] rfl) hf
  · refine z_iconst cx dX0_columns_17 ?_
    exact hj18 1 h _ _ ls (by decide) hp (lv_sub hl [] rfl) hf
theorem dX0_spot_0 : decode cX0_spot 0 = .ok (.aload_n 0, 1) := by decide +kernel
theorem dX0_spot_1 : decode cX0_spot 1 = .ok (.getfield 9, 3) := by decide +kernel
theorem dX0_spot_4 : decode cX0_spot 4 = .ok (.iload_n 1, 1) := by decide +kernel
theorem dX0_spot_5 : decode cX0_spot 5 = .ok (.iaload, 1) := by decide +kernel
theorem dX0_spot_6 : decode cX0_spot 6 = .ok (.lookupswitch 42 #[(0, 26), (1, 33)], 26) := by decide +kernel
theorem dX0_spot_48 : decode cX0_spot 48 = .ok (.aload_n 0, 1) := by decide +kernel
theorem dX0_spot_49 : decode cX0_spot 49 = .ok (.getfield 15, 3) := by decide +kernel
theorem dX0_spot_52 : decode cX0_spot 52 = .ok (.iload_n 1, 1) := by decide +kernel
theorem dX0_spot_53 : decode cX0_spot 53 = .ok (.iaload, 1) := by decide +kernel
theorem dX0_spot_54 : decode cX0_spot 54 = .ok (.iload_n 2, 1) := by decide +kernel
theorem dX0_spot_55 : decode cX0_spot 55 = .ok (.aload_n 0, 1) := by decide +kernel
theorem dX0_spot_56 : decode cX0_spot 56 = .ok (.getfield 21, 3) := by decide +kernel
theorem dX0_spot_59 : decode cX0_spot 59 = .ok (.imul, 1) := by decide +kernel
theorem dX0_spot_60 : decode cX0_spot 60 = .ok (.iadd, 1) := by decide +kernel
theorem dX0_spot_61 : decode cX0_spot 61 = .ok (.iload_n 3, 1) := by decide +kernel
theorem dX0_spot_62 : decode cX0_spot 62 = .ok (.iadd, 1) := by decide +kernel
theorem dX0_spot_63 : decode cX0_spot 63 = .ok (.ireturn, 1) := by decide +kernel
theorem dX0_spot_39 : decode cX0_spot 39 = .ok (.aload_n 0, 1) := by decide +kernel
theorem dX0_spot_40 : decode cX0_spot 40 = .ok (.getfield 15, 3) := by decide +kernel
theorem dX0_spot_43 : decode cX0_spot 43 = .ok (.iload_n 1, 1) := by decide +kernel
theorem dX0_spot_44 : decode cX0_spot 44 = .ok (.iaload, 1) := by decide +kernel
theorem dX0_spot_45 : decode cX0_spot 45 = .ok (.iload_n 2, 1) := by decide +kernel
theorem dX0_spot_46 : decode cX0_spot 46 = .ok (.iadd, 1) := by decide +kernel
theorem dX0_spot_47 : decode cX0_spot 47 = .ok (.ireturn, 1) := by decide +kernel
theorem dX0_spot_32 : decode cX0_spot 32 = .ok (.aload_n 0, 1) := by decide +kernel
theorem dX0_spot_33 : decode cX0_spot 33 = .ok (.getfield 15, 3) := by decide +kernel
theorem dX0_spot_36 : decode cX0_spot 36 = .ok (.iload_n 1, 1) := by decide +kernel
theorem dX0_spot_37 : decode cX0_spot 37 = .ok (.iaload, 1) := by decide +kernel
theorem dX0_spot_38 : decode cX0_spot 38 = .ok (.ireturn, 1) := by decide +kernel
def fX0_spot (F : Nat) (a0 : Nat) (a1 : Int) (a2 : Int) (a3 : Int) (h : HF) : RO :=
  zrd h (a0 + 1) a1 fun x1 =>
  if x1 = 0 then (
    zrd h (a0 + 2) a1 fun x3 =>
    some (x3, h)
  ) else (
  if x1 = 1 then (
    zrd h (a0 + 2) a1 fun x5 =>
    some (wr (x5 + a2), h)
  ) else (
    zrd h (a0 + 2) a1 fun x6 =>
    zgf h a0 0 fun x7 =>
    some (wr ((wr (x6 + (wr (a2 * x7)))) + a3), h)
  )
  )
set_option maxHeartbeats 4000000 in
set_option maxRecDepth 100000 in
theorem mX0_spot (F : Nat) (l : Launch) (g : zG) (B : Nat) (h : HF) (a0 : Nat) (a1 : Int) (a2 : Int) (a3 : Int) (ra0 : kt a0 = 3) (ra1 : rng a1) (ra2 : rng a2) (ra3 : rng a3) : CTi l g B yX0_spot cX0_spot 4 (some .int) 0 [.ref (B + a0), .int (ii a1), .int (ii a2), .int (ii a3)] h (fX0_spot F a0 a1 a2 a3 h) := by
  refine z_enterI (by decide) rfl (Nat.le_of_ble_eq_true rfl) ?_
  intro p e s m args below meth c ls o Q cx hp hl hf hQ
  have hl : lv_has ls 4 [(0, .ref (B + a0)), (1, .int (ii a1)), (2, .int (ii a2)), (3, .int (ii a3))] := hl
  unfold fX0_spot at hf
  refine lv_aload_n cx.1 cx.2.1 dX0_spot_0 rfl (lv_at hl 0 rfl) ?_
  refine z_gets cx hp (T := TX0) 0 3 (a0 + 1) rfl zin_0 (by decide) (by decide) ra0 rfl fl_X0_9 dX0_spot_1 ?_
  refine lv_iload_n cx.1 cx.2.1 dX0_spot_4 rfl (lv_at hl 1 rfl) ?_
  refine z_iald cx hp (zs_0_3 a0 (kt_lt ra0 (by decide)) ra0) ra1 dX0_spot_5 hf (fun x1 rx1 hf => ?_)
  refine ite_inv hf (fun c2 hf => ?_) (fun c2 hf => ?_)
  · refine lv_lookup (off := 26) (tgt := 32) cx.1 cx.2.1 dX0_spot_6 (by decide) (by rw [c2]; decide) (by decide) ?_
    refine lv_aload_n cx.1 cx.2.1 dX0_spot_32 rfl (lv_at hl 0 rfl) ?_
    refine z_gets cx hp (T := TX0) 0 4 (a0 + 2) rfl zin_0 (by decide) (by decide) ra0 rfl fl_X0_15 dX0_spot_33 ?_
    refine lv_iload_n cx.1 cx.2.1 dX0_spot_36 rfl (lv_at hl 1 rfl) ?_
    refine z_iald cx hp (zs_0_4 a0 (kt_lt ra0 (by decide)) ra0) ra1 dX0_spot_37 hf (fun x3 rx3 hf => ?_)
    rw [hQ]; exact z_iret cx hp rx3 dX0_spot_38 hf
  · refine ite_inv hf (fun c4 hf => ?_) (fun c4 hf => ?_)
    · refine lv_lookup (off := 33) (tgt := 39) cx.1 cx.2.1 dX0_spot_6 (by decide) (by rw [c4]; decide) (by decide) ?_
      refine lv_aload_n cx.1 cx.2.1 dX0_spot_39 rfl (lv_at hl 0 rfl) ?_
      refine z_gets cx hp (T := TX0) 0 4 (a0 + 2) rfl zin_0 (by decide) (by decide) ra0 rfl fl_X0_15 dX0_spot_40 ?_
      refine lv_iload_n cx.1 cx.2.1 dX0_spot_43 rfl (lv_at hl 1 rfl) ?_
      refine z_iald cx hp (zs_0_4 a0 (kt_lt ra0 (by decide)) ra0) ra1 dX0_spot_44 hf (fun x5 rx5 hf => ?_)
      refine lv_iload_n cx.1 cx.2.1 dX0_spot_45 rfl (lv_at hl 2 rfl) ?_
      refine z_iadd cx dX0_spot_46 ?_
      rw [hQ]; exact z_iret cx hp (rng_wr _) dX0_spot_47 hf
    · refine lv_lookup (off := 42) (tgt := 48) cx.1 cx.2.1 dX0_spot_6 (by decide) (by rw [ii_ti rx1]; exact ((if_neg (fun q => c2 q.symm)).trans ((if_neg (fun q => c4 q.symm)).trans rfl))) (by decide) ?_
      refine lv_aload_n cx.1 cx.2.1 dX0_spot_48 rfl (lv_at hl 0 rfl) ?_
      refine z_gets cx hp (T := TX0) 0 4 (a0 + 2) rfl zin_0 (by decide) (by decide) ra0 rfl fl_X0_15 dX0_spot_49 ?_
      refine lv_iload_n cx.1 cx.2.1 dX0_spot_52 rfl (lv_at hl 1 rfl) ?_
      refine z_iald cx hp (zs_0_4 a0 (kt_lt ra0 (by decide)) ra0) ra1 dX0_spot_53 hf (fun x6 rx6 hf => ?_)
      refine lv_iload_n cx.1 cx.2.1 dX0_spot_54 rfl (lv_at hl 2 rfl) ?_
      refine lv_aload_n cx.1 cx.2.1 dX0_spot_55 rfl (lv_at hl 0 rfl) ?_
      refine z_geti cx hp (T := TX0) 0 0 rfl zin_0 (by decide) (by decide) ra0 rfl fl_X0_21 dX0_spot_56 hf (fun x7 rx7 hf => ?_)
      refine z_imul cx dX0_spot_59 ?_
      refine z_iadd cx dX0_spot_60 ?_
      refine lv_iload_n cx.1 cx.2.1 dX0_spot_61 rfl (lv_at hl 3 rfl) ?_
      refine z_iadd cx dX0_spot_62 ?_
      rw [hQ]; exact z_iret cx hp (rng_wr _) dX0_spot_63 hf
theorem dX0_value_0 : decode cX0_value 0 = .ok (.aload_n 0, 1) := by decide +kernel
theorem dX0_value_1 : decode cX0_value 1 = .ok (.getfield 18, 3) := by decide +kernel
theorem dX0_value_4 : decode cX0_value 4 = .ok (.aload_n 0, 1) := by decide +kernel
theorem dX0_value_5 : decode cX0_value 5 = .ok (.iload_n 1, 1) := by decide +kernel
theorem dX0_value_6 : decode cX0_value 6 = .ok (.iload_n 2, 1) := by decide +kernel
theorem dX0_value_7 : decode cX0_value 7 = .ok (.iload_n 3, 1) := by decide +kernel
theorem dX0_value_8 : decode cX0_value 8 = .ok (.invokevirtual 61, 3) := by decide +kernel
theorem dX0_value_11 : decode cX0_value 11 = .ok (.iaload, 1) := by decide +kernel
theorem dX0_value_12 : decode cX0_value 12 = .ok (.ireturn, 1) := by decide +kernel
def fX0_value (F : Nat) (a0 : Nat) (a1 : Int) (a2 : Int) (a3 : Int) (h : HF) : RO :=
  zbd (fX0_spot F a0 a1 a2 a3 h) fun r1 h =>
  zrd h (a0 + 3) r1 fun x2 =>
  some (x2, h)
set_option maxHeartbeats 4000000 in
set_option maxRecDepth 100000 in
theorem mX0_value (F : Nat) (l : Launch) (g : zG) (B : Nat) (h : HF) (a0 : Nat) (a1 : Int) (a2 : Int) (a3 : Int) (ra0 : kt a0 = 3) (ra1 : rng a1) (ra2 : rng a2) (ra3 : rng a3) : CTi l g B yX0_value cX0_value 4 (some .int) 1 [.ref (B + a0), .int (ii a1), .int (ii a2), .int (ii a3)] h (fX0_value F a0 a1 a2 a3 h) := by
  refine z_enterI (by decide) rfl (Nat.le_of_ble_eq_true rfl) ?_
  intro p e s m args below meth c ls o Q cx hp hl hf hQ
  have hl : lv_has ls 4 [(0, .ref (B + a0)), (1, .int (ii a1)), (2, .int (ii a2)), (3, .int (ii a3))] := hl
  unfold fX0_value at hf
  refine lv_aload_n cx.1 cx.2.1 dX0_value_0 rfl (lv_at hl 0 rfl) ?_
  refine z_gets cx hp (T := TX0) 0 5 (a0 + 3) rfl zin_0 (by decide) (by decide) ra0 rfl fl_X0_18 dX0_value_1 ?_
  refine lv_aload_n cx.1 cx.2.1 dX0_value_4 rfl (lv_at hl 0 rfl) ?_
  refine lv_iload_n cx.1 cx.2.1 dX0_value_5 rfl (lv_at hl 1 rfl) ?_
  refine lv_iload_n cx.1 cx.2.1 dX0_value_6 rfl (lv_at hl 2 rfl) ?_
  refine lv_iload_n cx.1 cx.2.1 dX0_value_7 rfl (lv_at hl 3 rfl) ?_
  refine z_ci cx hp (fun o' hx => zrunV (n := 1) (As := [.int (ii a1), .int (ii a2), .int (ii a3)]) (rest := [.ref (B + (a0 + 3))]) cx hp (mX0_spot F l g B h a0 a1 a2 a3 ra0 ra1 ra2 ra3 o' hx) 0 ra0 (by decide) rfl vw_X0_spot ml_X0_61 (by decide) rfl hl.1 rfl (Nat.le_of_ble_eq_true rfl) dX0_value_8) hf (fun r1 h H locs rr1 hp hf => ?_)
  refine z_iald cx hp (zs_0_5 a0 (kt_lt ra0 (by decide)) ra0) rr1 dX0_value_11 hf (fun x2 rx2 hf => ?_)
  rw [hQ]; exact z_iret cx hp rx2 dX0_value_12 hf
theorem dX0_hasElement_0 : decode cX0_hasElement 0 = .ok (.iload_n 1, 1) := by decide +kernel
theorem dX0_hasElement_1 : decode cX0_hasElement 1 = .ok (.ifCond .lt 15, 3) := by decide +kernel
theorem dX0_hasElement_4 : decode cX0_hasElement 4 = .ok (.iload_n 1, 1) := by decide +kernel
theorem dX0_hasElement_5 : decode cX0_hasElement 5 = .ok (.aload_n 0, 1) := by decide +kernel
theorem dX0_hasElement_6 : decode cX0_hasElement 6 = .ok (.getfield 21, 3) := by decide +kernel
theorem dX0_hasElement_9 : decode cX0_hasElement 9 = .ok (.if_icmp .ge 7, 3) := by decide +kernel
theorem dX0_hasElement_12 : decode cX0_hasElement 12 = .ok (.iconst 1, 1) := by decide +kernel
theorem dX0_hasElement_13 : decode cX0_hasElement 13 = .ok (.goto 4, 3) := by decide +kernel
theorem dX0_hasElement_16 : decode cX0_hasElement 16 = .ok (.iconst 0, 1) := by decide +kernel
theorem dX0_hasElement_17 : decode cX0_hasElement 17 = .ok (.ireturn, 1) := by decide +kernel
def fX0_hasElement (F : Nat) (a0 : Nat) (a1 : Int) (h : HF) : RO :=
  zjn (fun (y17_0 : Int) (h : HF) => (
    zrz y17_0 h
  )) fun j17 =>
  zjn (fun  (h : HF) => (
    j17 0 h
  )) fun j16 =>
  if a1 < 0 then (
    j16  h
  ) else (
    zgf h a0 0 fun x1 =>
    if a1 < x1 then (
      j17 1 h
    ) else (
      j16  h
    )
  )
set_option maxHeartbeats 4000000 in
set_option maxRecDepth 100000 in
theorem mX0_hasElement (F : Nat) (l : Launch) (g : zG) (B : Nat) (h : HF) (a0 : Nat) (a1 : Int) (ra0 : kt a0 = 3) (ra1 : rng a1) : CTi l g B yX0_hasElement cX0_hasElement 2 (some .boolean) 0 [.ref (B + a0), .int (ii a1)] h (fX0_hasElement F a0 a1 h) := by
  refine z_enterI (by decide) rfl (Nat.le_of_ble_eq_true rfl) ?_
  intro p e s m args below meth c ls o Q cx hp hl hf hQ
  have hl : lv_has ls 2 [(0, .ref (B + a0)), (1, .int (ii a1))] := hl
  unfold fX0_hasElement at hf
  refine lv_iload_n cx.1 cx.2.1 dX0_hasElement_0 rfl (lv_at hl 1 rfl) ?_
  refine z_jn hf (fun j => ∀ (y17_0 : Int) (h : HF) (H : Heap) (locs : List Loc) (ls : Array Slot), rng y17_0 → Hp g B s h H locs → lv_has ls 2 [] → j y17_0 h = some o → W p l e (rmn 0) s m args below meth c H locs 0 0 Q (F0 m 17 ls [.int (ii y17_0)])) ?_ (fun j17 hj17 hf => ?_)
  · intro y17_0 h H locs ls ry17_0 hp hl hf
    rw [hQ]; exact z_zret cx hp dX0_hasElement_17 hf
  refine z_jn hf (fun j => ∀  (h : HF) (H : Heap) (locs : List Loc) (ls : Array Slot), Hp g B s h H locs → lv_has ls 2 [] → j  h = some o → W p l e (rmn 0) s m args below meth c H locs 0 0 Q (F0 m 16 ls [])) ?_ (fun j16 hj16 hf => ?_)
  · intro  h H locs ls  hp hl hf
    refine z_iconst cx dX0_hasElement_16 ?_
    exact hj17 0 h _ _ ls (by decide) hp (lv_sub hl [] rfl) hf
  refine z_if_lt cx ra1 (tgt := 16) dX0_hasElement_1 (by decide) hf (fun _ hf => ?_) (fun _ hf => ?_)
  · exact hj16  h _ _ ls  hp (lv_sub hl [] rfl) hf
  · refine lv_iload_n cx.1 cx.2.1 dX0_hasElement_4 rfl (lv_at hl 1 rfl) ?_
    refine lv_aload_n cx.1 cx.2.1 dX0_hasElement_5 rfl (lv_at hl 0 rfl) ?_
    refine z_geti cx hp (T := TX0) 0 0 rfl zin_0 (by decide) (by decide) ra0 rfl fl_X0_21 dX0_hasElement_6 hf (fun x1 rx1 hf => ?_)
    refine z_icmp_ge cx ra1 rx1 (tgt := 16) dX0_hasElement_9 (by decide) hf (fun _ hf => ?_) (fun _ hf => ?_)
    · refine z_iconst cx dX0_hasElement_12 ?_
      refine lv_goto (tgt := 17) cx.1 cx.2.1 dX0_hasElement_13 (by decide) ?_
      exact hj17 1 h _ _ ls (by decide) hp (lv_sub hl [] rfl) hf
    · exact hj16  h _ _ ls  hp (lv_sub hl [] rfl) hf
theorem dX0_hasCell_0 : decode cX0_hasCell 0 = .ok (.aload_n 0, 1) := by decide +kernel
theorem dX0_hasCell_1 : decode cX0_hasCell 1 = .ok (.getfield 9, 3) := by decide +kernel
theorem dX0_hasCell_4 : decode cX0_hasCell 4 = .ok (.iload_n 1, 1) := by decide +kernel
theorem dX0_hasCell_5 : decode cX0_hasCell 5 = .ok (.iaload, 1) := by decide +kernel
theorem dX0_hasCell_6 : decode cX0_hasCell 6 = .ok (.iconst 1, 1) := by decide +kernel
theorem dX0_hasCell_7 : decode cX0_hasCell 7 = .ok (.if_icmp .lt 11, 3) := by decide +kernel
theorem dX0_hasCell_10 : decode cX0_hasCell 10 = .ok (.aload_n 0, 1) := by decide +kernel
theorem dX0_hasCell_11 : decode cX0_hasCell 11 = .ok (.iload_n 2, 1) := by decide +kernel
theorem dX0_hasCell_12 : decode cX0_hasCell 12 = .ok (.invokevirtual 65, 3) := by decide +kernel
theorem dX0_hasCell_15 : decode cX0_hasCell 15 = .ok (.ifCond .eq 25, 3) := by decide +kernel
theorem dX0_hasCell_18 : decode cX0_hasCell 18 = .ok (.aload_n 0, 1) := by decide +kernel
theorem dX0_hasCell_19 : decode cX0_hasCell 19 = .ok (.getfield 9, 3) := by decide +kernel
theorem dX0_hasCell_22 : decode cX0_hasCell 22 = .ok (.iload_n 1, 1) := by decide +kernel
theorem dX0_hasCell_23 : decode cX0_hasCell 23 = .ok (.iaload, 1) := by decide +kernel
theorem dX0_hasCell_24 : decode cX0_hasCell 24 = .ok (.iconst 2, 1) := by decide +kernel
theorem dX0_hasCell_25 : decode cX0_hasCell 25 = .ok (.if_icmp .lt 11, 3) := by decide +kernel
theorem dX0_hasCell_28 : decode cX0_hasCell 28 = .ok (.aload_n 0, 1) := by decide +kernel
theorem dX0_hasCell_29 : decode cX0_hasCell 29 = .ok (.iload_n 3, 1) := by decide +kernel
theorem dX0_hasCell_30 : decode cX0_hasCell 30 = .ok (.invokevirtual 65, 3) := by decide +kernel
theorem dX0_hasCell_33 : decode cX0_hasCell 33 = .ok (.ifCond .eq 7, 3) := by decide +kernel
theorem dX0_hasCell_40 : decode cX0_hasCell 40 = .ok (.iconst 0, 1) := by decide +kernel
theorem dX0_hasCell_36 : decode cX0_hasCell 36 = .ok (.iconst 1, 1) := by decide +kernel
theorem dX0_hasCell_37 : decode cX0_hasCell 37 = .ok (.goto 4, 3) := by decide +kernel
theorem dX0_hasCell_41 : decode cX0_hasCell 41 = .ok (.ireturn, 1) := by decide +kernel
def fX0_hasCell (F : Nat) (a0 : Nat) (a1 : Int) (a2 : Int) (a3 : Int) (h : HF) : RO :=
  zrd h (a0 + 1) a1 fun x1 =>
  zjn (fun (y41_0 : Int) (h : HF) => (
    zrz y41_0 h
  )) fun j41 =>
  zjn (fun  (h : HF) => (
    j41 0 h
  )) fun j40 =>
  zjn (fun  (h : HF) => (
    zrd h (a0 + 1) a1 fun x2 =>
    zjn (fun  (h : HF) => (
      j41 1 h
    )) fun j36 =>
    if x2 < 2 then (
      j36  h
    ) else (
      zbd (fX0_hasElement F a0 a3 h) fun r3 h =>
      if r3 = 0 then (
        j40  h
      ) else (
        j36  h
      )
    )
  )) fun j18 =>
  if x1 < 1 then (
    j18  h
  ) else (
    zbd (fX0_hasElement F a0 a2 h) fun r4 h =>
    if r4 = 0 then (
      j40  h
    ) else (
      j18  h
    )
  )
set_option maxHeartbeats 4000000 in
set_option maxRecDepth 100000 in
theorem mX0_hasCell (F : Nat) (l : Launch) (g : zG) (B : Nat) (h : HF) (a0 : Nat) (a1 : Int) (a2 : Int) (a3 : Int) (ra0 : kt a0 = 3) (ra1 : rng a1) (ra2 : rng a2) (ra3 : rng a3) : CTi l g B yX0_hasCell cX0_hasCell 4 (some .boolean) 1 [.ref (B + a0), .int (ii a1), .int (ii a2), .int (ii a3)] h (fX0_hasCell F a0 a1 a2 a3 h) := by
  refine z_enterI (by decide) rfl (Nat.le_of_ble_eq_true rfl) ?_
  intro p e s m args below meth c ls o Q cx hp hl hf hQ
  have hl : lv_has ls 4 [(0, .ref (B + a0)), (1, .int (ii a1)), (2, .int (ii a2)), (3, .int (ii a3))] := hl
  unfold fX0_hasCell at hf
  refine lv_aload_n cx.1 cx.2.1 dX0_hasCell_0 rfl (lv_at hl 0 rfl) ?_
  refine z_gets cx hp (T := TX0) 0 3 (a0 + 1) rfl zin_0 (by decide) (by decide) ra0 rfl fl_X0_9 dX0_hasCell_1 ?_
  refine lv_iload_n cx.1 cx.2.1 dX0_hasCell_4 rfl (lv_at hl 1 rfl) ?_
  refine z_iald cx hp (zs_0_3 a0 (kt_lt ra0 (by decide)) ra0) ra1 dX0_hasCell_5 hf (fun x1 rx1 hf => ?_)
  refine z_iconst cx dX0_hasCell_6 ?_
  refine z_jn hf (fun j => ∀ (y41_0 : Int) (h : HF) (H : Heap) (locs : List Loc) (ls : Array Slot), rng y41_0 → Hp g B s h H locs → lv_has ls 4 [] → j y41_0 h = some o → W p l e (rmn 1) s m args below meth c H locs 0 0 Q (F0 m 41 ls [.int (ii y41_0)])) ?_ (fun j41 hj41 hf => ?_)
  · intro y41_0 h H locs ls ry41_0 hp hl hf
    rw [hQ]; exact z_zret cx hp dX0_hasCell_41 hf
  refine z_jn hf (fun j => ∀  (h : HF) (H : Heap) (locs : List Loc) (ls : Array Slot), Hp g B s h H locs → lv_has ls 4 [] → j  h = some o → W p l e (rmn 1) s m args below meth c H locs 0 0 Q (F0 m 40 ls [])) ?_ (fun j40 hj40 hf => ?_)
  · intro  h H locs ls  hp hl hf
    refine z_iconst cx dX0_hasCell_40 ?_
    exact hj41 0 h _ _ ls (by decide) hp (lv_sub hl [] rfl) hf
  refine z_jn hf (fun j => ∀  (h : HF) (H : Heap) (locs : List Loc) (ls : Array Slot), Hp g B s h H locs → lv_has ls 4 [(0, .ref (B + a0)), (1, .int (ii a1)), (3, .int (ii a3))] → j  h = some o → W p l e (rmn 1) s m args below meth c H locs 0 0 Q (F0 m 18 ls [])) ?_ (fun j18 hj18 hf => ?_)
  · intro  h H locs ls  hp hl hf
    refine lv_aload_n cx.1 cx.2.1 dX0_hasCell_18 rfl (lv_at hl 0 rfl) ?_
    refine z_gets cx hp (T := TX0) 0 3 (a0 + 1) rfl zin_0 (by decide) (by decide) ra0 rfl fl_X0_9 dX0_hasCell_19 ?_
    refine lv_iload_n cx.1 cx.2.1 dX0_hasCell_22 rfl (lv_at hl 1 rfl) ?_
    refine z_iald cx hp (zs_0_3 a0 (kt_lt ra0 (by decide)) ra0) ra1 dX0_hasCell_23 hf (fun x2 rx2 hf => ?_)
    refine z_iconst cx dX0_hasCell_24 ?_
    refine z_jn hf (fun j => ∀  (h : HF) (H : Heap) (locs : List Loc) (ls : Array Slot), Hp g B s h H locs → lv_has ls 4 [] → j  h = some o → W p l e (rmn 1) s m args below meth c H locs 0 0 Q (F0 m 36 ls [])) ?_ (fun j36 hj36 hf => ?_)
    · intro  h H locs ls  hp hl hf
      refine z_iconst cx dX0_hasCell_36 ?_
      refine lv_goto (tgt := 41) cx.1 cx.2.1 dX0_hasCell_37 (by decide) ?_
      exact hj41 1 h _ _ ls (by decide) hp (lv_sub hl [] rfl) hf
    refine z_icmp_lt cx rx2 (by decide) (tgt := 36) dX0_hasCell_25 (by decide) hf (fun _ hf => ?_) (fun _ hf => ?_)
    · exact hj36  h _ _ ls  hp (lv_sub hl [] rfl) hf
    · refine lv_aload_n cx.1 cx.2.1 dX0_hasCell_28 rfl (lv_at hl 0 rfl) ?_
      refine lv_iload_n cx.1 cx.2.1 dX0_hasCell_29 rfl (lv_at hl 2 rfl) ?_
      refine z_ci cx hp (fun o' hx => zrunV (n := 1) (As := [.int (ii a3)]) (rest := []) cx hp (mX0_hasElement F l g B h a0 a3 ra0 ra3 o' hx) 0 ra0 (by decide) rfl vw_X0_hasElement ml_X0_65 (by decide) rfl hl.1 rfl (Nat.le_of_ble_eq_true rfl) dX0_hasCell_30) hf (fun r3 h H locs rr3 hp hf => ?_)
      refine z_if_eq cx rr3 (tgt := 40) dX0_hasCell_33 (by decide) hf (fun _ hf => ?_) (fun _ hf => ?_)
      · exact hj40  h _ _ ls  hp (lv_sub hl [] rfl) hf
      · exact hj36  h _ _ ls  hp (lv_sub hl [] rfl) hf
  refine z_icmp_lt cx rx1 (by decide) (tgt := 18) dX0_hasCell_7 (by decide) hf (fun _ hf => ?_) (fun _ hf => ?_)
  · exact hj18  h _ _ ls  hp (lv_sub hl [0, 1, 3] rfl) hf
  · refine lv_aload_n cx.1 cx.2.1 dX0_hasCell_10 rfl (lv_at hl 0 rfl) ?_
    refine lv_iload_n cx.1 cx.2.1 dX0_hasCell_11 rfl (lv_at hl 2 rfl) ?_
    refine z_ci cx hp (fun o' hx => zrunV (n := 1) (As := [.int (ii a2)]) (rest := []) cx hp (mX0_hasElement F l g B h a0 a2 ra0 ra2 o' hx) 0 ra0 (by decide) rfl vw_X0_hasElement ml_X0_65 (by decide) rfl hl.1 rfl (Nat.le_of_ble_eq_true rfl) dX0_hasCell_12) hf (fun r4 h H locs rr4 hp hf => ?_)
    refine z_if_eq cx rr4 (tgt := 40) dX0_hasCell_15 (by decide) hf (fun _ hf => ?_) (fun _ hf => ?_)
    · exact hj40  h _ _ ls  hp (lv_sub hl [] rfl) hf
    · exact hj18  h _ _ ls  hp (lv_sub hl [0, 1, 3] rfl) hf
theorem dX0_otherThanZero_0 : decode cX0_otherThanZero 0 = .ok (.iconst 0, 1) := by decide +kernel
theorem dX0_otherThanZero_1 : decode cX0_otherThanZero 1 = .ok (.istore_n 1, 1) := by decide +kernel
theorem dX0_otherThanZero_2 : decode cX0_otherThanZero 2 = .ok (.iconst 0, 1) := by decide +kernel
theorem dX0_otherThanZero_3 : decode cX0_otherThanZero 3 = .ok (.istore_n 2, 1) := by decide +kernel
theorem dX0_otherThanZero_4 : decode cX0_otherThanZero 4 = .ok (.iload_n 2, 1) := by decide +kernel
theorem dX0_otherThanZero_5 : decode cX0_otherThanZero 5 = .ok (.aload_n 0, 1) := by decide +kernel
theorem dX0_otherThanZero_6 : decode cX0_otherThanZero 6 = .ok (.invokevirtual 57, 3) := by decide +kernel
theorem dX0_otherThanZero_9 : decode cX0_otherThanZero 9 = .ok (.if_icmp .ge 21, 3) := by decide +kernel
theorem dX0_otherThanZero_12 : decode cX0_otherThanZero 12 = .ok (.aload_n 0, 1) := by decide +kernel
theorem dX0_otherThanZero_13 : decode cX0_otherThanZero 13 = .ok (.getfield 18, 3) := by decide +kernel
theorem dX0_otherThanZero_16 : decode cX0_otherThanZero 16 = .ok (.iload_n 2, 1) := by decide +kernel
theorem dX0_otherThanZero_17 : decode cX0_otherThanZero 17 = .ok (.iaload, 1) := by decide +kernel
theorem dX0_otherThanZero_18 : decode cX0_otherThanZero 18 = .ok (.ifCond .eq 6, 3) := by decide +kernel
theorem dX0_otherThanZero_21 : decode cX0_otherThanZero 21 = .ok (.iinc 1 1, 3) := by decide +kernel
theorem dX0_otherThanZero_24 : decode cX0_otherThanZero 24 = .ok (.iinc 2 1, 3) := by decide +kernel
theorem dX0_otherThanZero_27 : decode cX0_otherThanZero 27 = .ok (.goto (-23), 3) := by decide +kernel
theorem dX0_otherThanZero_30 : decode cX0_otherThanZero 30 = .ok (.iload_n 1, 1) := by decide +kernel
theorem dX0_otherThanZero_31 : decode cX0_otherThanZero 31 = .ok (.ireturn, 1) := by decide +kernel
def LX0_otherThanZero_4 (F : Nat) (u0 : Nat) (k30 : Int → HF → RO) : Nat → Int → Int → HF → RO
  | 0, _, _, _ => none
  | n + 1, v1, v2, h =>
    zbd (fX0_cellCount F u0 h) fun r1 h =>
    if v2 < r1 then (
      zrd h (u0 + 3) v2 fun x2 =>
      zjn (fun (x24_1 : Int) (x24_2 : Int) (h : HF) => (
        zlet (wr (x24_2 + 1)) fun x3 =>
        LX0_otherThanZero_4 F u0 k30 n x24_1 x3 h
      )) fun j24 =>
      if x2 = 0 then (
        j24 v1 v2 h
      ) else (
        zlet (wr (v1 + 1)) fun x4 =>
        j24 x4 v2 h
      )
    ) else (
      k30 v1 h
    )
set_option maxHeartbeats 4000000 in
set_option maxRecDepth 100000 in
theorem wX0_otherThanZero_4 {p : Program} {l : Launch} {e : Env} {s : State} {m : MethodId} {args : Array Value} {below : List Frame} {meth : Method} {c : Code} {Q : State → Prop} {g : zG} {B : Nat} {o : Int × HF} (F : Nat) (cx : Cx p s m args meth c cX0_otherThanZero 3 RX0 (some .int) g) (u0 : Nat) (ru0 : kt u0 = 3) (k30 : Int → HF → RO) (hk30 : ∀ (x1 : Int) (h : HF) (H : Heap) (locs : List Loc) (ls : Array Slot), rng x1 → Hp g B s h H locs → lv_has ls 3 [(1, .int (ii x1))] → k30 x1 h = some o → W p l e (rmn 1) s m args below meth c H locs 0 0 Q (F0 m 30 ls [])) : ∀ (n : Nat) (v1 : Int) (v2 : Int) (h : HF) (H : Heap) (locs : List Loc) (ls : Array Slot), rng v1 → rng v2 → Hp g B s h H locs → lv_has ls 3 [(0, .ref (B + u0)), (1, .int (ii v1)), (2, .int (ii v2))] → LX0_otherThanZero_4 F u0 k30 n v1 v2 h = some o → W p l e (rmn 1) s m args below meth c H locs 0 0 Q (F0 m 4 ls []) := by
  intro n
  induction n with
  | zero =>
    intro v1 v2 h H locs ls rv1 rv2 hp hl hf
    cases hf
  | succ n ih =>
    intro v1 v2 h H locs ls rv1 rv2 hp hl hf
    rw [LX0_otherThanZero_4] at hf
    refine lv_iload_n cx.1 cx.2.1 dX0_otherThanZero_4 rfl (lv_at hl 2 rfl) ?_
    refine lv_aload_n cx.1 cx.2.1 dX0_otherThanZero_5 rfl (lv_at hl 0 rfl) ?_
    refine z_ci cx hp (fun o' hx => zrunV (n := 1) (As := []) (rest := [.int (ii v2)]) cx hp (mX0_cellCount F l g B h u0 ru0 o' hx) 0 ru0 (by decide) rfl vw_X0_cellCount ml_X0_57 (by decide) rfl hl.1 rfl (Nat.le_of_ble_eq_true rfl) dX0_otherThanZero_6) hf (fun r1 h H locs rr1 hp hf => ?_)
    refine z_icmp_ge cx rv2 rr1 (tgt := 30) dX0_otherThanZero_9 (by decide) hf (fun _ hf => ?_) (fun _ hf => ?_)
    · refine lv_aload_n cx.1 cx.2.1 dX0_otherThanZero_12 rfl (lv_at hl 0 rfl) ?_
      refine z_gets cx hp (T := TX0) 0 5 (u0 + 3) rfl zin_0 (by decide) (by decide) ru0 rfl fl_X0_18 dX0_otherThanZero_13 ?_
      refine lv_iload_n cx.1 cx.2.1 dX0_otherThanZero_16 rfl (lv_at hl 2 rfl) ?_
      refine z_iald cx hp (zs_0_5 u0 (kt_lt ru0 (by decide)) ru0) rv2 dX0_otherThanZero_17 hf (fun x2 rx2 hf => ?_)
      refine z_jn hf (fun j => ∀ (x24_1 : Int) (x24_2 : Int) (h : HF) (H : Heap) (locs : List Loc) (ls : Array Slot), rng x24_1 → rng x24_2 → Hp g B s h H locs → lv_has ls 3 [(0, .ref (B + u0)), (1, .int (ii x24_1)), (2, .int (ii x24_2))] → j x24_1 x24_2 h = some o → W p l e (rmn 1) s m args below meth c H locs 0 0 Q (F0 m 24 ls [])) ?_ (fun j24 hj24 hf => ?_)
      · intro x24_1 x24_2 h H locs ls rx24_1 rx24_2 hp hl hf
        refine z_iinc cx (fun x3 => [(2, .int (ii x3)), (0, .ref (B + u0)), (1, .int (ii x24_1))]) dX0_otherThanZero_24 hl (k := 2) rfl (by decide) (fun _ => rfl) hf (fun x3 rx3 hf ls hl => ?_)
        refine lv_goto (tgt := 4) cx.1 cx.2.1 dX0_otherThanZero_27 (by decide) ?_
        exact ih x24_1 x3 h _ _ ls rx24_1 rx3 hp (lv_sub hl [1, 2, 0] rfl) hf
      refine z_if_eq cx rx2 (tgt := 24) dX0_otherThanZero_18 (by decide) hf (fun _ hf => ?_) (fun _ hf => ?_)
      · exact hj24 v1 v2 h _ _ ls rv1 rv2 hp (lv_sub hl [0, 1, 2] rfl) hf
      · refine z_iinc cx (fun x4 => [(1, .int (ii x4)), (0, .ref (B + u0)), (2, .int (ii v2))]) dX0_otherThanZero_21 hl (k := 1) rfl (by decide) (fun _ => rfl) hf (fun x4 rx4 hf ls hl => ?_)
        exact hj24 x4 v2 h _ _ ls rx4 rv2 hp (lv_sub hl [1, 0, 2] rfl) hf
    · exact hk30 v1 h _ _ ls rv1 hp (lv_sub hl [1] rfl) hf
def fX0_otherThanZero (F : Nat) (a0 : Nat) (h : HF) : RO :=
  zjn (fun (x30_1 : Int) (h : HF) => (
    some (x30_1, h)
  )) fun j30 =>
  LX0_otherThanZero_4 F a0 j30 F 0 0 h
set_option maxHeartbeats 4000000 in
set_option maxRecDepth 100000 in
theorem mX0_otherThanZero (F : Nat) (l : Launch) (g : zG) (B : Nat) (h : HF) (a0 : Nat) (ra0 : kt a0 = 3) : CTi l g B yX0_otherThanZero cX0_otherThanZero 3 (some .int) 1 [.ref (B + a0)] h (fX0_otherThanZero F a0 h) := by
  refine z_enterI (by decide) rfl (Nat.le_of_ble_eq_true rfl) ?_
  intro p e s m args below meth c ls o Q cx hp hl hf hQ
  have hl : lv_has ls 3 [(0, .ref (B + a0))] := hl
  unfold fX0_otherThanZero at hf
  refine z_iconst cx dX0_otherThanZero_0 ?_
  refine lv_istore_n (lv' := [(1, .int (ii 0)), (0, .ref (B + a0))]) cx.1 cx.2.1 dX0_otherThanZero_1 rfl hl (by decide) rfl (fun ls hl => ?_)
  refine z_iconst cx dX0_otherThanZero_2 ?_
  refine lv_istore_n (lv' := [(2, .int (ii 0)), (1, .int (ii 0)), (0, .ref (B + a0))]) cx.1 cx.2.1 dX0_otherThanZero_3 rfl hl (by decide) rfl (fun ls hl => ?_)
  refine z_jn hf (fun j => ∀ (x30_1 : Int) (h : HF) (H : Heap) (locs : List Loc) (ls : Array Slot), rng x30_1 → Hp g B s h H locs → lv_has ls 3 [(1, .int (ii x30_1))] → j x30_1 h = some o → W p l e (rmn 1) s m args below meth c H locs 0 0 Q (F0 m 30 ls [])) ?_ (fun j30 hj30 hf => ?_)
  · intro x30_1 h H locs ls rx30_1 hp hl hf
    refine lv_iload_n cx.1 cx.2.1 dX0_otherThanZero_30 rfl (lv_at hl 0 rfl) ?_
    rw [hQ]; exact z_iret cx hp rx30_1 dX0_otherThanZero_31 hf
  exact wX0_otherThanZero_4 F cx a0 ra0 j30 hj30 F 0 0 h _ _ ls (by decide) (by decide) hp (lv_sub hl [2, 1, 0] rfl) hf
theorem dX0_empty_0 : decode cX0_empty 0 = .ok (.aload_n 0, 1) := by decide +kernel
theorem dX0_empty_1 : decode cX0_empty 1 = .ok (.iconst 0, 1) := by decide +kernel
theorem dX0_empty_2 : decode cX0_empty 2 = .ok (.invokevirtual 25, 3) := by decide +kernel
theorem dX0_empty_5 : decode cX0_empty 5 = .ok (.return_, 1) := by decide +kernel
def fX0_empty (F : Nat) (a0 : Nat) (h : HF) : RO :=
  zbd (fX0_begin F a0 0 h) fun _ h =>
  some (0, h)
set_option maxHeartbeats 4000000 in
set_option maxRecDepth 100000 in
theorem mX0_empty (F : Nat) (l : Launch) (g : zG) (B : Nat) (h : HF) (a0 : Nat) (ra0 : kt a0 = 3) : CTv l g B yX0_empty cX0_empty 1 1 [.ref (B + a0)] h (fX0_empty F a0 h) := by
  refine z_enterV (by decide) rfl (Nat.le_of_ble_eq_true rfl) ?_
  intro p e s m args below meth c ls o Q cx hp hl hf hQ
  have hl : lv_has ls 1 [(0, .ref (B + a0))] := hl
  unfold fX0_empty at hf
  refine lv_aload_n cx.1 cx.2.1 dX0_empty_0 rfl (lv_at hl 0 rfl) ?_
  refine z_iconst cx dX0_empty_1 ?_
  refine z_cv cx hp (fun o' hx => zrunV (n := 1) (As := [.int (ii 0)]) (rest := []) cx hp (mX0_begin F l g B h a0 0 ra0 (by decide) o' hx) 0 ra0 (by decide) rfl vw_X0_begin ml_X0_25 (by decide) rfl hl.1 rfl (Nat.le_of_ble_eq_true rfl) dX0_empty_2) hf (fun _ h H locs hp hf => ?_)
  rw [hQ]; exact z_vret cx hp dX0_empty_5 hf
