theorem dX4_clear_0 : decode cX4_clear 0 = .ok (.aload_n 0, 1) := by decide +kernel
theorem dX4_clear_1 : decode cX4_clear 1 = .ok (.iconst 0, 1) := by decide +kernel
theorem dX4_clear_2 : decode cX4_clear 2 = .ok (.putfield 33, 3) := by decide +kernel
theorem dX4_clear_5 : decode cX4_clear 5 = .ok (.aload_n 0, 1) := by decide +kernel
theorem dX4_clear_6 : decode cX4_clear 6 = .ok (.iconst 0, 1) := by decide +kernel
theorem dX4_clear_7 : decode cX4_clear 7 = .ok (.putfield 37, 3) := by decide +kernel
theorem dX4_clear_10 : decode cX4_clear 10 = .ok (.aload_n 0, 1) := by decide +kernel
theorem dX4_clear_11 : decode cX4_clear 11 = .ok (.iconst 0, 1) := by decide +kernel
theorem dX4_clear_12 : decode cX4_clear 12 = .ok (.putfield 40, 3) := by decide +kernel
theorem dX4_clear_15 : decode cX4_clear 15 = .ok (.aload_n 0, 1) := by decide +kernel
theorem dX4_clear_16 : decode cX4_clear 16 = .ok (.getfield 15, 3) := by decide +kernel
theorem dX4_clear_19 : decode cX4_clear 19 = .ok (.iconst 0, 1) := by decide +kernel
theorem dX4_clear_20 : decode cX4_clear 20 = .ok (.invokestatic 43, 3) := by decide +kernel
theorem dX4_clear_23 : decode cX4_clear 23 = .ok (.return_, 1) := by decide +kernel
def fX4_clear (F : Nat) (a0 : Nat) (h : HF) : RO :=
  zpf h a0 0 0 fun h =>
  zpf h a0 1 0 fun h =>
  zpf h a0 2 0 fun h =>
  zbd (fJ7_fill_53178 F (a0 + 2) 0 h) fun _ h =>
  some (0, h)
set_option maxHeartbeats 4000000 in
set_option maxRecDepth 100000 in
theorem mX4_clear (F : Nat) (l : Launch) (g : zG) (B : Nat) (h : HF) (a0 : Nat) (ra0 : kt a0 = 7) : CTv l g B yX4_clear cX4_clear 1 1 [.ref (B + a0)] h (fX4_clear F a0 h) := by
  refine z_enterV (by decide) rfl (Nat.le_of_ble_eq_true rfl) ?_
  intro p e s m args below meth c ls o Q cx hp hl hf hQ
  have hl : lv_has ls 1 [(0, .ref (B + a0))] := hl
  unfold fX4_clear at hf
  refine lv_aload_n cx.1 cx.2.1 dX4_clear_0 rfl (lv_at hl 0 rfl) ?_
  refine z_iconst cx dX4_clear_1 ?_
  refine z_puti cx hp (T := TX4) tyX4 tyX4_ok nmX4 4 0 (by decide) rfl zin_4 (by decide) (by decide) ra0 rfl rfl rfl fl_X4_33 dX4_clear_2 hf (fun h H locs hp hf => ?_)
  refine lv_aload_n cx.1 cx.2.1 dX4_clear_5 rfl (lv_at hl 0 rfl) ?_
  refine z_iconst cx dX4_clear_6 ?_
  refine z_puti cx hp (T := TX4) tyX4 tyX4_ok nmX4 4 1 (by decide) rfl zin_4 (by decide) (by decide) ra0 rfl rfl rfl fl_X4_37 dX4_clear_7 hf (fun h H locs hp hf => ?_)
  refine lv_aload_n cx.1 cx.2.1 dX4_clear_10 rfl (lv_at hl 0 rfl) ?_
  refine z_iconst cx dX4_clear_11 ?_
  refine z_puti cx hp (T := TX4) tyX4 tyX4_ok nmX4 4 2 (by decide) rfl zin_4 (by decide) (by decide) ra0 rfl rfl rfl fl_X4_40 dX4_clear_12 hf (fun h H locs hp hf => ?_)
  refine lv_aload_n cx.1 cx.2.1 dX4_clear_15 rfl (lv_at hl 0 rfl) ?_
  refine z_gets cx hp (T := TX4) 4 4 (a0 + 2) rfl zin_4 (by decide) (by decide) ra0 rfl fl_X4_15 dX4_clear_16 ?_
  refine z_iconst cx dX4_clear_19 ?_
  refine z_cv cx hp (fun o' hx => zrunS (n := 1) (As := [.ref (B + (a0 + 2)), .int (ii 0)]) (rest := []) cx hp (mJ7_fill_53178 F l g B h (a0 + 2) 0 (zs_4_4 a0 (kt_lt ra0 (by decide)) ra0) (by decide) o' hx) sw_J7_fill_53178 ml_X4_43 (by decide) rfl hl.1 rfl (Nat.le_of_ble_eq_true rfl) dX4_clear_20) hf (fun _ h H locs hp hf => ?_)
  rw [hQ]; exact z_vret cx hp dX4_clear_23 hf
theorem dX5_keepsLaw_0 : decode cX5_keepsLaw 0 = .ok (.aload_n 0, 1) := by decide +kernel
theorem dX5_keepsLaw_1 : decode cX5_keepsLaw 1 = .ok (.iconst (-1), 1) := by decide +kernel
theorem dX5_keepsLaw_2 : decode cX5_keepsLaw 2 = .ok (.putfield 50, 3) := by decide +kernel
theorem dX5_keepsLaw_5 : decode cX5_keepsLaw 5 = .ok (.aload_n 2, 1) := by decide +kernel
theorem dX5_keepsLaw_6 : decode cX5_keepsLaw 6 = .ok (.getfield 53, 3) := by decide +kernel
theorem dX5_keepsLaw_9 : decode cX5_keepsLaw 9 = .ok (.iload_n 3, 1) := by decide +kernel
theorem dX5_keepsLaw_10 : decode cX5_keepsLaw 10 = .ok (.iconst 1, 1) := by decide +kernel
theorem dX5_keepsLaw_11 : decode cX5_keepsLaw 11 = .ok (.iadd, 1) := by decide +kernel
theorem dX5_keepsLaw_12 : decode cX5_keepsLaw 12 = .ok (.iaload, 1) := by decide +kernel
theorem dX5_keepsLaw_13 : decode cX5_keepsLaw 13 = .ok (.iconst 1, 1) := by decide +kernel
theorem dX5_keepsLaw_14 : decode cX5_keepsLaw 14 = .ok (.isub, 1) := by decide +kernel
theorem dX5_keepsLaw_15 : decode cX5_keepsLaw 15 = .ok (.istore 4, 2) := by decide +kernel
theorem dX5_keepsLaw_17 : decode cX5_keepsLaw 17 = .ok (.aload_n 2, 1) := by decide +kernel
theorem dX5_keepsLaw_18 : decode cX5_keepsLaw 18 = .ok (.getfield 53, 3) := by decide +kernel
theorem dX5_keepsLaw_21 : decode cX5_keepsLaw 21 = .ok (.iload_n 3, 1) := by decide +kernel
theorem dX5_keepsLaw_22 : decode cX5_keepsLaw 22 = .ok (.iaload, 1) := by decide +kernel
theorem dX5_keepsLaw_23 : decode cX5_keepsLaw 23 = .ok (.istore 5, 2) := by decide +kernel
theorem dX5_keepsLaw_25 : decode cX5_keepsLaw 25 = .ok (.iload 5, 2) := by decide +kernel
theorem dX5_keepsLaw_27 : decode cX5_keepsLaw 27 = .ok (.iload 4, 2) := by decide +kernel
theorem dX5_keepsLaw_29 : decode cX5_keepsLaw 29 = .ok (.if_icmp .ge 22, 3) := by decide +kernel
theorem dX5_keepsLaw_32 : decode cX5_keepsLaw 32 = .ok (.aload_n 0, 1) := by decide +kernel
theorem dX5_keepsLaw_33 : decode cX5_keepsLaw 33 = .ok (.aload_n 1, 1) := by decide +kernel
theorem dX5_keepsLaw_34 : decode cX5_keepsLaw 34 = .ok (.aload_n 2, 1) := by decide +kernel
theorem dX5_keepsLaw_35 : decode cX5_keepsLaw 35 = .ok (.iload 5, 2) := by decide +kernel
theorem dX5_keepsLaw_37 : decode cX5_keepsLaw 37 = .ok (.invokevirtual 56, 3) := by decide +kernel
theorem dX5_keepsLaw_40 : decode cX5_keepsLaw 40 = .ok (.ifCond .ne 5, 3) := by decide +kernel
theorem dX5_keepsLaw_43 : decode cX5_keepsLaw 43 = .ok (.iconst 1, 1) := by decide +kernel
theorem dX5_keepsLaw_44 : decode cX5_keepsLaw 44 = .ok (.ireturn, 1) := by decide +kernel
theorem dX5_keepsLaw_45 : decode cX5_keepsLaw 45 = .ok (.iinc 5 1, 3) := by decide +kernel
theorem dX5_keepsLaw_48 : decode cX5_keepsLaw 48 = .ok (.goto (-23), 3) := by decide +kernel
theorem dX5_keepsLaw_51 : decode cX5_keepsLaw 51 = .ok (.aload_n 0, 1) := by decide +kernel
theorem dX5_keepsLaw_52 : decode cX5_keepsLaw 52 = .ok (.aload_n 1, 1) := by decide +kernel
theorem dX5_keepsLaw_53 : decode cX5_keepsLaw 53 = .ok (.aload_n 2, 1) := by decide +kernel
theorem dX5_keepsLaw_54 : decode cX5_keepsLaw 54 = .ok (.iload 4, 2) := by decide +kernel
theorem dX5_keepsLaw_56 : decode cX5_keepsLaw 56 = .ok (.invokevirtual 56, 3) := by decide +kernel
theorem dX5_keepsLaw_59 : decode cX5_keepsLaw 59 = .ok (.ireturn, 1) := by decide +kernel
def LX5_keepsLaw_25 (F : Nat) (u0 : Nat) (u1 : Nat) (u2 : Nat) (u4 : Int) (k51 : Int → HF → RO) (k43 : HF → RO) : Nat → Int → HF → RO
  | 0, _, _ => none
  | n + 1, v5, h =>
    if v5 < u4 then (
      zbd (fX5_agrees F u0 u1 u2 v5 h) fun r5 h =>
      if r5 = 0 then (
        k43  h
      ) else (
        zlet (wr (v5 + 1)) fun x6 =>
        LX5_keepsLaw_25 F u0 u1 u2 u4 k51 k43 n x6 h
      )
    ) else (
      k51 u4 h
    )
set_option maxHeartbeats 4000000 in
set_option maxRecDepth 100000 in
theorem wX5_keepsLaw_25 {p : Program} {l : Launch} {e : Env} {s : State} {m : MethodId} {args : Array Value} {below : List Frame} {meth : Method} {c : Code} {Q : State → Prop} {g : zG} {B : Nat} {o : Int × HF} (F : Nat) (cx : Cx p s m args meth c cX5_keepsLaw 6 RX5 (some .boolean) g B) (u0 : Nat) (ru0 : kt u0 = 8) (u1 : Nat) (ru1 : kt u1 = 3) (u2 : Nat) (ru2 : kt u2 = 7) (u4 : Int) (ru4 : rng u4) (k51 : Int → HF → RO) (hk51 : ∀ (x4 : Int) (h : HF) (H : Heap) (locs : List Loc) (ls : Array Slot), rng x4 → Hp g B s h H locs → lv_has ls 6 [(0, .ref (B + u0)), (1, .ref (B + u1)), (2, .ref (B + u2)), (4, .int (ii x4))] → k51 x4 h = some o → W p l e (rmn 2) s m args below meth c H locs 0 0 Q (F0 m 51 ls [])) (k43 : HF → RO) (hk43 : ∀  (h : HF) (H : Heap) (locs : List Loc) (ls : Array Slot), Hp g B s h H locs → lv_has ls 6 [] → k43  h = some o → W p l e (rmn 2) s m args below meth c H locs 0 0 Q (F0 m 43 ls [])) : ∀ (n : Nat) (v5 : Int) (h : HF) (H : Heap) (locs : List Loc) (ls : Array Slot), rng v5 → Hp g B s h H locs → lv_has ls 6 [(0, .ref (B + u0)), (1, .ref (B + u1)), (2, .ref (B + u2)), (4, .int (ii u4)), (5, .int (ii v5))] → LX5_keepsLaw_25 F u0 u1 u2 u4 k51 k43 n v5 h = some o → W p l e (rmn 2) s m args below meth c H locs 0 0 Q (F0 m 25 ls []) := by
  intro n
  induction n with
  | zero =>
    intro v5 h H locs ls rv5 hp hl hf
    cases hf
  | succ n ih =>
    intro v5 h H locs ls rv5 hp hl hf
    rw [LX5_keepsLaw_25] at hf
    refine lv_iload cx.1 cx.2.1 dX5_keepsLaw_25 (lv_at hl 4 rfl) ?_
    refine lv_iload cx.1 cx.2.1 dX5_keepsLaw_27 (lv_at hl 3 rfl) ?_
    refine z_icmp_ge cx rv5 ru4 (tgt := 51) dX5_keepsLaw_29 (by decide) hf (fun _ hf => ?_) (fun _ hf => ?_)
    · refine lv_aload_n cx.1 cx.2.1 dX5_keepsLaw_32 rfl (lv_at hl 0 rfl) ?_
      refine lv_aload_n cx.1 cx.2.1 dX5_keepsLaw_33 rfl (lv_at hl 1 rfl) ?_
      refine lv_aload_n cx.1 cx.2.1 dX5_keepsLaw_34 rfl (lv_at hl 2 rfl) ?_
      refine lv_iload cx.1 cx.2.1 dX5_keepsLaw_35 (lv_at hl 4 rfl) ?_
      refine z_ci cx hp (fun o' hx => zrunV (n := 2) (As := [.ref (B + u1), .ref (B + u2), .int (ii v5)]) (rest := []) cx hp (mX5_agrees F l g B h u0 u1 u2 v5 ru0 ru1 ru2 rv5 o' hx) 5 ru0 (by decide) rfl vw_X5_agrees ml_X5_56 (by decide) rfl hl.1 rfl (Nat.le_of_ble_eq_true rfl) dX5_keepsLaw_37) hf (fun r5 h H locs rr5 hp hf => ?_)
      refine z_if_ne cx rr5 (tgt := 45) dX5_keepsLaw_40 (by decide) hf (fun _ hf => ?_) (fun _ hf => ?_)
      · exact hk43  h _ _ ls  hp (lv_sub hl [] rfl) hf
      · refine z_iinc cx (fun x6 => [(5, .int (ii x6)), (0, .ref (B + u0)), (1, .ref (B + u1)), (2, .ref (B + u2)), (4, .int (ii u4))]) dX5_keepsLaw_45 hl (k := 4) rfl (by decide) (fun _ => rfl) hf (fun x6 rx6 hf ls hl => ?_)
        refine lv_goto (tgt := 25) cx.1 cx.2.1 dX5_keepsLaw_48 (by decide) ?_
        exact ih x6 h _ _ ls rx6 hp (lv_sub hl [1, 2, 3, 4, 0] rfl) hf
    · exact hk51 u4 h _ _ ls ru4 hp (lv_sub hl [0, 1, 2, 3] rfl) hf
def fX5_keepsLaw (F : Nat) (a0 : Nat) (a1 : Nat) (a2 : Nat) (a3 : Int) (h : HF) : RO :=
  zpf h a0 2 (-1) fun h =>
  zrd h (a2 + 1) (wr (a3 + 1)) fun x1 =>
  zlet (wr (x1 - 1)) fun x2 =>
  zrd h (a2 + 1) a3 fun x3 =>
  zjn (fun (x51_4 : Int) (h : HF) => (
    zbd (fX5_agrees F a0 a1 a2 x51_4 h) fun r4 h =>
    zrz r4 h
  )) fun j51 =>
  zjn (fun  (h : HF) => (
    zrz 1 h
  )) fun j43 =>
  LX5_keepsLaw_25 F a0 a1 a2 x2 j51 j43 F x3 h
set_option maxHeartbeats 4000000 in
set_option maxRecDepth 100000 in
theorem mX5_keepsLaw (F : Nat) (l : Launch) (g : zG) (B : Nat) (h : HF) (a0 : Nat) (a1 : Nat) (a2 : Nat) (a3 : Int) (ra0 : kt a0 = 8) (ra1 : kt a1 = 3) (ra2 : kt a2 = 7) (ra3 : rng a3) : CTi l g B yX5_keepsLaw cX5_keepsLaw 6 (some .boolean) 2 [.ref (B + a0), .ref (B + a1), .ref (B + a2), .int (ii a3)] h (fX5_keepsLaw F a0 a1 a2 a3 h) := by
  refine z_enterI (by decide) rfl (Nat.le_of_ble_eq_true rfl) ?_
  intro p e s m args below meth c ls o Q cx hp hl hf hQ
  have hl : lv_has ls 6 [(0, .ref (B + a0)), (1, .ref (B + a1)), (2, .ref (B + a2)), (3, .int (ii a3))] := hl
  unfold fX5_keepsLaw at hf
  refine lv_aload_n cx.1 cx.2.1 dX5_keepsLaw_0 rfl (lv_at hl 0 rfl) ?_
  refine z_iconst cx dX5_keepsLaw_1 ?_
  refine z_puti cx hp (T := TX5) tyX5 tyX5_ok nmX5 5 2 (by decide) rfl zin_5 (by decide) (by decide) ra0 rfl rfl rfl fl_X5_50 dX5_keepsLaw_2 hf (fun h H locs hp hf => ?_)
  refine lv_aload_n cx.1 cx.2.1 dX5_keepsLaw_5 rfl (lv_at hl 2 rfl) ?_
  refine z_gets cx hp (T := TX4) 4 3 (a2 + 1) rfl zin_4 (by decide) (by decide) ra2 rfl fl_X5_53 dX5_keepsLaw_6 ?_
  refine lv_iload_n cx.1 cx.2.1 dX5_keepsLaw_9 rfl (lv_at hl 3 rfl) ?_
  refine z_iconst cx dX5_keepsLaw_10 ?_
  refine z_iadd cx dX5_keepsLaw_11 ?_
  refine z_iald cx hp (zs_4_3 a2 (kt_lt ra2 (by decide)) ra2) (rng_wr _) dX5_keepsLaw_12 hf (fun x1 rx1 hf => ?_)
  refine z_iconst cx dX5_keepsLaw_13 ?_
  refine z_isub cx dX5_keepsLaw_14 ?_
  refine z_let (rng_wr _) hf (fun x2 rx2 hf => ?_)
  refine lv_istore (lv' := [(4, .int (ii x2)), (0, .ref (B + a0)), (1, .ref (B + a1)), (2, .ref (B + a2)), (3, .int (ii a3))]) cx.1 cx.2.1 dX5_keepsLaw_15 hl (by decide) rfl (fun ls hl => ?_)
  refine lv_aload_n cx.1 cx.2.1 dX5_keepsLaw_17 rfl (lv_at hl 3 rfl) ?_
  refine z_gets cx hp (T := TX4) 4 3 (a2 + 1) rfl zin_4 (by decide) (by decide) ra2 rfl fl_X5_53 dX5_keepsLaw_18 ?_
  refine lv_iload_n cx.1 cx.2.1 dX5_keepsLaw_21 rfl (lv_at hl 4 rfl) ?_
  refine z_iald cx hp (zs_4_3 a2 (kt_lt ra2 (by decide)) ra2) ra3 dX5_keepsLaw_22 hf (fun x3 rx3 hf => ?_)
  refine lv_istore (lv' := [(5, .int (ii x3)), (4, .int (ii x2)), (0, .ref (B + a0)), (1, .ref (B + a1)), (2, .ref (B + a2)), (3, .int (ii a3))]) cx.1 cx.2.1 dX5_keepsLaw_23 hl (by decide) rfl (fun ls hl => ?_)
  refine z_jn hf (fun j => ∀ (x51_4 : Int) (h : HF) (H : Heap) (locs : List Loc) (ls : Array Slot), rng x51_4 → Hp g B s h H locs → lv_has ls 6 [(0, .ref (B + a0)), (1, .ref (B + a1)), (2, .ref (B + a2)), (4, .int (ii x51_4))] → j x51_4 h = some o → W p l e (rmn 2) s m args below meth c H locs 0 0 Q (F0 m 51 ls [])) ?_ (fun j51 hj51 hf => ?_)
  · intro x51_4 h H locs ls rx51_4 hp hl hf
    refine lv_aload_n cx.1 cx.2.1 dX5_keepsLaw_51 rfl (lv_at hl 0 rfl) ?_
    refine lv_aload_n cx.1 cx.2.1 dX5_keepsLaw_52 rfl (lv_at hl 1 rfl) ?_
    refine lv_aload_n cx.1 cx.2.1 dX5_keepsLaw_53 rfl (lv_at hl 2 rfl) ?_
    refine lv_iload cx.1 cx.2.1 dX5_keepsLaw_54 (lv_at hl 3 rfl) ?_
    refine z_ci cx hp (fun o' hx => zrunV (n := 2) (As := [.ref (B + a1), .ref (B + a2), .int (ii x51_4)]) (rest := []) cx hp (mX5_agrees F l g B h a0 a1 a2 x51_4 ra0 ra1 ra2 rx51_4 o' hx) 5 ra0 (by decide) rfl vw_X5_agrees ml_X5_56 (by decide) rfl hl.1 rfl (Nat.le_of_ble_eq_true rfl) dX5_keepsLaw_56) hf (fun r4 h H locs rr4 hp hf => ?_)
    rw [hQ]; exact z_zret cx hp dX5_keepsLaw_59 hf
  refine z_jn hf (fun j => ∀  (h : HF) (H : Heap) (locs : List Loc) (ls : Array Slot), Hp g B s h H locs → lv_has ls 6 [] → j  h = some o → W p l e (rmn 2) s m args below meth c H locs 0 0 Q (F0 m 43 ls [])) ?_ (fun j43 hj43 hf => ?_)
  · intro  h H locs ls  hp hl hf
    refine z_iconst cx dX5_keepsLaw_43 ?_
    rw [hQ]; exact z_zret cx hp dX5_keepsLaw_44 hf
  exact wX5_keepsLaw_25 F cx a0 ra0 a1 ra1 a2 ra2 x2 rx2 j51 hj51 j43 hj43 F x3 h _ _ ls rx3 hp (lv_sub hl [2, 3, 4, 1, 0] rfl) hf
theorem dX6_nextNumbering_0 : decode cX6_nextNumbering 0 = .ok (.iload_n 1, 1) := by decide +kernel
theorem dX6_nextNumbering_1 : decode cX6_nextNumbering 1 = .ok (.iconst 2, 1) := by decide +kernel
theorem dX6_nextNumbering_2 : decode cX6_nextNumbering 2 = .ok (.isub, 1) := by decide +kernel
theorem dX6_nextNumbering_3 : decode cX6_nextNumbering 3 = .ok (.istore_n 2, 1) := by decide +kernel
theorem dX6_nextNumbering_4 : decode cX6_nextNumbering 4 = .ok (.iload_n 2, 1) := by decide +kernel
theorem dX6_nextNumbering_5 : decode cX6_nextNumbering 5 = .ok (.ifCond .lt 26, 3) := by decide +kernel
theorem dX6_nextNumbering_8 : decode cX6_nextNumbering 8 = .ok (.aload_n 0, 1) := by decide +kernel
theorem dX6_nextNumbering_9 : decode cX6_nextNumbering 9 = .ok (.getfield 18, 3) := by decide +kernel
theorem dX6_nextNumbering_12 : decode cX6_nextNumbering 12 = .ok (.iload_n 2, 1) := by decide +kernel
theorem dX6_nextNumbering_13 : decode cX6_nextNumbering 13 = .ok (.iaload, 1) := by decide +kernel
theorem dX6_nextNumbering_14 : decode cX6_nextNumbering 14 = .ok (.aload_n 0, 1) := by decide +kernel
theorem dX6_nextNumbering_15 : decode cX6_nextNumbering 15 = .ok (.getfield 18, 3) := by decide +kernel
theorem dX6_nextNumbering_18 : decode cX6_nextNumbering 18 = .ok (.iload_n 2, 1) := by decide +kernel
theorem dX6_nextNumbering_19 : decode cX6_nextNumbering 19 = .ok (.iconst 1, 1) := by decide +kernel
theorem dX6_nextNumbering_20 : decode cX6_nextNumbering 20 = .ok (.iadd, 1) := by decide +kernel
theorem dX6_nextNumbering_21 : decode cX6_nextNumbering 21 = .ok (.iaload, 1) := by decide +kernel
theorem dX6_nextNumbering_22 : decode cX6_nextNumbering 22 = .ok (.if_icmp .le 9, 3) := by decide +kernel
theorem dX6_nextNumbering_25 : decode cX6_nextNumbering 25 = .ok (.iinc 2 (-1), 3) := by decide +kernel
theorem dX6_nextNumbering_28 : decode cX6_nextNumbering 28 = .ok (.goto (-24), 3) := by decide +kernel
theorem dX6_nextNumbering_31 : decode cX6_nextNumbering 31 = .ok (.iload_n 2, 1) := by decide +kernel
theorem dX6_nextNumbering_32 : decode cX6_nextNumbering 32 = .ok (.ifCond .ge 5, 3) := by decide +kernel
theorem dX6_nextNumbering_35 : decode cX6_nextNumbering 35 = .ok (.iconst 0, 1) := by decide +kernel
theorem dX6_nextNumbering_36 : decode cX6_nextNumbering 36 = .ok (.ireturn, 1) := by decide +kernel
theorem dX6_nextNumbering_37 : decode cX6_nextNumbering 37 = .ok (.iload_n 1, 1) := by decide +kernel
theorem dX6_nextNumbering_38 : decode cX6_nextNumbering 38 = .ok (.iconst 1, 1) := by decide +kernel
theorem dX6_nextNumbering_39 : decode cX6_nextNumbering 39 = .ok (.isub, 1) := by decide +kernel
theorem dX6_nextNumbering_40 : decode cX6_nextNumbering 40 = .ok (.istore_n 3, 1) := by decide +kernel
theorem dX6_nextNumbering_41 : decode cX6_nextNumbering 41 = .ok (.iload_n 3, 1) := by decide +kernel
theorem dX6_nextNumbering_42 : decode cX6_nextNumbering 42 = .ok (.iload_n 2, 1) := by decide +kernel
theorem dX6_nextNumbering_43 : decode cX6_nextNumbering 43 = .ok (.if_icmp .le 24, 3) := by decide +kernel
theorem dX6_nextNumbering_46 : decode cX6_nextNumbering 46 = .ok (.aload_n 0, 1) := by decide +kernel
theorem dX6_nextNumbering_47 : decode cX6_nextNumbering 47 = .ok (.getfield 18, 3) := by decide +kernel
theorem dX6_nextNumbering_50 : decode cX6_nextNumbering 50 = .ok (.iload_n 3, 1) := by decide +kernel
theorem dX6_nextNumbering_51 : decode cX6_nextNumbering 51 = .ok (.iaload, 1) := by decide +kernel
theorem dX6_nextNumbering_52 : decode cX6_nextNumbering 52 = .ok (.aload_n 0, 1) := by decide +kernel
theorem dX6_nextNumbering_53 : decode cX6_nextNumbering 53 = .ok (.getfield 18, 3) := by decide +kernel
theorem dX6_nextNumbering_56 : decode cX6_nextNumbering 56 = .ok (.iload_n 2, 1) := by decide +kernel
theorem dX6_nextNumbering_57 : decode cX6_nextNumbering 57 = .ok (.iaload, 1) := by decide +kernel
theorem dX6_nextNumbering_58 : decode cX6_nextNumbering 58 = .ok (.if_icmp .ge 9, 3) := by decide +kernel
theorem dX6_nextNumbering_61 : decode cX6_nextNumbering 61 = .ok (.iinc 3 (-1), 3) := by decide +kernel
theorem dX6_nextNumbering_64 : decode cX6_nextNumbering 64 = .ok (.goto (-23), 3) := by decide +kernel
theorem dX6_nextNumbering_67 : decode cX6_nextNumbering 67 = .ok (.aload_n 0, 1) := by decide +kernel
theorem dX6_nextNumbering_68 : decode cX6_nextNumbering 68 = .ok (.iload_n 2, 1) := by decide +kernel
theorem dX6_nextNumbering_69 : decode cX6_nextNumbering 69 = .ok (.iload_n 3, 1) := by decide +kernel
theorem dX6_nextNumbering_70 : decode cX6_nextNumbering 70 = .ok (.invokevirtual 76, 3) := by decide +kernel
theorem dX6_nextNumbering_73 : decode cX6_nextNumbering 73 = .ok (.iload_n 2, 1) := by decide +kernel
theorem dX6_nextNumbering_74 : decode cX6_nextNumbering 74 = .ok (.iconst 1, 1) := by decide +kernel
theorem dX6_nextNumbering_75 : decode cX6_nextNumbering 75 = .ok (.iadd, 1) := by decide +kernel
theorem dX6_nextNumbering_76 : decode cX6_nextNumbering 76 = .ok (.istore 4, 2) := by decide +kernel
theorem dX6_nextNumbering_78 : decode cX6_nextNumbering 78 = .ok (.iload_n 1, 1) := by decide +kernel
theorem dX6_nextNumbering_79 : decode cX6_nextNumbering 79 = .ok (.iconst 1, 1) := by decide +kernel
theorem dX6_nextNumbering_80 : decode cX6_nextNumbering 80 = .ok (.isub, 1) := by decide +kernel
theorem dX6_nextNumbering_81 : decode cX6_nextNumbering 81 = .ok (.istore 5, 2) := by decide +kernel
theorem dX6_nextNumbering_83 : decode cX6_nextNumbering 83 = .ok (.iload 4, 2) := by decide +kernel
theorem dX6_nextNumbering_85 : decode cX6_nextNumbering 85 = .ok (.iload 5, 2) := by decide +kernel
theorem dX6_nextNumbering_87 : decode cX6_nextNumbering 87 = .ok (.if_icmp .ge 20, 3) := by decide +kernel
theorem dX6_nextNumbering_90 : decode cX6_nextNumbering 90 = .ok (.aload_n 0, 1) := by decide +kernel
theorem dX6_nextNumbering_91 : decode cX6_nextNumbering 91 = .ok (.iload 4, 2) := by decide +kernel
theorem dX6_nextNumbering_93 : decode cX6_nextNumbering 93 = .ok (.iload 5, 2) := by decide +kernel
theorem dX6_nextNumbering_95 : decode cX6_nextNumbering 95 = .ok (.invokevirtual 76, 3) := by decide +kernel
theorem dX6_nextNumbering_98 : decode cX6_nextNumbering 98 = .ok (.iinc 4 1, 3) := by decide +kernel
theorem dX6_nextNumbering_101 : decode cX6_nextNumbering 101 = .ok (.iinc 5 (-1), 3) := by decide +kernel
theorem dX6_nextNumbering_104 : decode cX6_nextNumbering 104 = .ok (.goto (-21), 3) := by decide +kernel
theorem dX6_nextNumbering_107 : decode cX6_nextNumbering 107 = .ok (.iload_n 2, 1) := by decide +kernel
theorem dX6_nextNumbering_108 : decode cX6_nextNumbering 108 = .ok (.istore 4, 2) := by decide +kernel
theorem dX6_nextNumbering_110 : decode cX6_nextNumbering 110 = .ok (.iload 4, 2) := by decide +kernel
theorem dX6_nextNumbering_112 : decode cX6_nextNumbering 112 = .ok (.iload_n 1, 1) := by decide +kernel
theorem dX6_nextNumbering_113 : decode cX6_nextNumbering 113 = .ok (.if_icmp .ge 23, 3) := by decide +kernel
theorem dX6_nextNumbering_116 : decode cX6_nextNumbering 116 = .ok (.aload_n 0, 1) := by decide +kernel
theorem dX6_nextNumbering_117 : decode cX6_nextNumbering 117 = .ok (.getfield 21, 3) := by decide +kernel
theorem dX6_nextNumbering_120 : decode cX6_nextNumbering 120 = .ok (.aload_n 0, 1) := by decide +kernel
theorem dX6_nextNumbering_121 : decode cX6_nextNumbering 121 = .ok (.getfield 18, 3) := by decide +kernel
theorem dX6_nextNumbering_124 : decode cX6_nextNumbering 124 = .ok (.iload 4, 2) := by decide +kernel
theorem dX6_nextNumbering_126 : decode cX6_nextNumbering 126 = .ok (.iaload, 1) := by decide +kernel
theorem dX6_nextNumbering_127 : decode cX6_nextNumbering 127 = .ok (.iload 4, 2) := by decide +kernel
theorem dX6_nextNumbering_129 : decode cX6_nextNumbering 129 = .ok (.iastore, 1) := by decide +kernel
theorem dX6_nextNumbering_130 : decode cX6_nextNumbering 130 = .ok (.iinc 4 1, 3) := by decide +kernel
theorem dX6_nextNumbering_133 : decode cX6_nextNumbering 133 = .ok (.goto (-23), 3) := by decide +kernel
theorem dX6_nextNumbering_136 : decode cX6_nextNumbering 136 = .ok (.iconst 1, 1) := by decide +kernel
theorem dX6_nextNumbering_137 : decode cX6_nextNumbering 137 = .ok (.ireturn, 1) := by decide +kernel
def LX6_nextNumbering_110 (F : Nat) (u0 : Nat) (u1 : Int) (k136 : HF → RO) : Nat → Int → HF → RO
  | 0, _, _ => none
  | n + 1, v4, h =>
    if v4 < u1 then (
      zrd h (u0 + 3) v4 fun x6 =>
      zwr h (u0 + 4) x6 v4 fun h =>
      zlet (wr (v4 + 1)) fun x7 =>
      LX6_nextNumbering_110 F u0 u1 k136 n x7 h
    ) else (
      k136  h
    )
set_option maxHeartbeats 4000000 in
set_option maxRecDepth 100000 in
theorem wX6_nextNumbering_110 {p : Program} {l : Launch} {e : Env} {s : State} {m : MethodId} {args : Array Value} {below : List Frame} {meth : Method} {c : Code} {Q : State → Prop} {g : zG} {B : Nat} {o : Int × HF} (F : Nat) (cx : Cx p s m args meth c cX6_nextNumbering 6 RX6 (some .boolean) g B) (u0 : Nat) (ru0 : kt u0 = 9) (u1 : Int) (ru1 : rng u1) (k136 : HF → RO) (hk136 : ∀  (h : HF) (H : Heap) (locs : List Loc) (ls : Array Slot), Hp g B s h H locs → lv_has ls 6 [] → k136  h = some o → W p l e (rmn 1) s m args below meth c H locs 0 0 Q (F0 m 136 ls [])) : ∀ (n : Nat) (v4 : Int) (h : HF) (H : Heap) (locs : List Loc) (ls : Array Slot), rng v4 → Hp g B s h H locs → lv_has ls 6 [(0, .ref (B + u0)), (1, .int (ii u1)), (4, .int (ii v4))] → LX6_nextNumbering_110 F u0 u1 k136 n v4 h = some o → W p l e (rmn 1) s m args below meth c H locs 0 0 Q (F0 m 110 ls []) := by
  intro n
  induction n with
  | zero =>
    intro v4 h H locs ls rv4 hp hl hf
    cases hf
  | succ n ih =>
    intro v4 h H locs ls rv4 hp hl hf
    rw [LX6_nextNumbering_110] at hf
    refine lv_iload cx.1 cx.2.1 dX6_nextNumbering_110 (lv_at hl 2 rfl) ?_
    refine lv_iload_n cx.1 cx.2.1 dX6_nextNumbering_112 rfl (lv_at hl 1 rfl) ?_
    refine z_icmp_ge cx rv4 ru1 (tgt := 136) dX6_nextNumbering_113 (by decide) hf (fun _ hf => ?_) (fun _ hf => ?_)
    · refine lv_aload_n cx.1 cx.2.1 dX6_nextNumbering_116 rfl (lv_at hl 0 rfl) ?_
      refine z_gets cx hp (T := TX6) 6 5 (u0 + 4) rfl zin_6 (by decide) (by decide) ru0 rfl fl_X6_21 dX6_nextNumbering_117 ?_
      refine lv_aload_n cx.1 cx.2.1 dX6_nextNumbering_120 rfl (lv_at hl 0 rfl) ?_
      refine z_gets cx hp (T := TX6) 6 4 (u0 + 3) rfl zin_6 (by decide) (by decide) ru0 rfl fl_X6_18 dX6_nextNumbering_121 ?_
      refine lv_iload cx.1 cx.2.1 dX6_nextNumbering_124 (lv_at hl 2 rfl) ?_
      refine z_iald cx hp (zs_6_4 u0 (kt_lt ru0 (by decide)) ru0) rv4 dX6_nextNumbering_126 hf (fun x6 rx6 hf => ?_)
      refine lv_iload cx.1 cx.2.1 dX6_nextNumbering_127 (lv_at hl 2 rfl) ?_
      refine z_iast cx hp (zs_6_5 u0 (kt_lt ru0 (by decide)) ru0) rx6 rv4 dX6_nextNumbering_129 hf (fun h H locs hp hf => ?_)
      refine z_iinc cx (fun x7 => [(4, .int (ii x7)), (0, .ref (B + u0)), (1, .int (ii u1))]) dX6_nextNumbering_130 hl (k := 2) rfl (by decide) (fun _ => rfl) hf (fun x7 rx7 hf ls hl => ?_)
      refine lv_goto (tgt := 110) cx.1 cx.2.1 dX6_nextNumbering_133 (by decide) ?_
      exact ih x7 h _ _ ls rx7 hp (lv_sub hl [1, 2, 0] rfl) hf
    · exact hk136  h _ _ ls  hp (lv_sub hl [] rfl) hf
def LX6_nextNumbering_83 (F : Nat) (u0 : Nat) (u1 : Int) (u2 : Int) (k107 : Int → HF → RO) : Nat → Int → Int → HF → RO
  | 0, _, _, _ => none
  | n + 1, v4, v5, h =>
    if v4 < v5 then (
      zbd (fX6_swap F u0 v4 v5 h) fun _ h =>
      zlet (wr (v4 + 1)) fun x9 =>
      zlet (wr (v5 + (-1))) fun x10 =>
      LX6_nextNumbering_83 F u0 u1 u2 k107 n x9 x10 h
    ) else (
      k107 u2 h
    )
set_option maxHeartbeats 4000000 in
set_option maxRecDepth 100000 in
theorem wX6_nextNumbering_83 {p : Program} {l : Launch} {e : Env} {s : State} {m : MethodId} {args : Array Value} {below : List Frame} {meth : Method} {c : Code} {Q : State → Prop} {g : zG} {B : Nat} {o : Int × HF} (F : Nat) (cx : Cx p s m args meth c cX6_nextNumbering 6 RX6 (some .boolean) g B) (u0 : Nat) (ru0 : kt u0 = 9) (u1 : Int) (ru1 : rng u1) (u2 : Int) (ru2 : rng u2) (k107 : Int → HF → RO) (hk107 : ∀ (x2 : Int) (h : HF) (H : Heap) (locs : List Loc) (ls : Array Slot), rng x2 → Hp g B s h H locs → lv_has ls 6 [(0, .ref (B + u0)), (1, .int (ii u1)), (2, .int (ii x2))] → k107 x2 h = some o → W p l e (rmn 1) s m args below meth c H locs 0 0 Q (F0 m 107 ls [])) : ∀ (n : Nat) (v4 : Int) (v5 : Int) (h : HF) (H : Heap) (locs : List Loc) (ls : Array Slot), rng v4 → rng v5 → Hp g B s h H locs → lv_has ls 6 [(0, .ref (B + u0)), (1, .int (ii u1)), (2, .int (ii u2)), (4, .int (ii v4)), (5, .int (ii v5))] → LX6_nextNumbering_83 F u0 u1 u2 k107 n v4 v5 h = some o → W p l e (rmn 1) s m args below meth c H locs 0 0 Q (F0 m 83 ls []) := by
  intro n
  induction n with
  | zero =>
    intro v4 v5 h H locs ls rv4 rv5 hp hl hf
    cases hf
  | succ n ih =>
    intro v4 v5 h H locs ls rv4 rv5 hp hl hf
    rw [LX6_nextNumbering_83] at hf
    refine lv_iload cx.1 cx.2.1 dX6_nextNumbering_83 (lv_at hl 3 rfl) ?_
    refine lv_iload cx.1 cx.2.1 dX6_nextNumbering_85 (lv_at hl 4 rfl) ?_
    refine z_icmp_ge cx rv4 rv5 (tgt := 107) dX6_nextNumbering_87 (by decide) hf (fun _ hf => ?_) (fun _ hf => ?_)
    · refine lv_aload_n cx.1 cx.2.1 dX6_nextNumbering_90 rfl (lv_at hl 0 rfl) ?_
      refine lv_iload cx.1 cx.2.1 dX6_nextNumbering_91 (lv_at hl 3 rfl) ?_
      refine lv_iload cx.1 cx.2.1 dX6_nextNumbering_93 (lv_at hl 4 rfl) ?_
      refine z_cv cx hp (fun o' hx => zrunV (n := 1) (As := [.int (ii v4), .int (ii v5)]) (rest := []) cx hp (mX6_swap F l g B h u0 v4 v5 ru0 rv4 rv5 o' hx) 6 ru0 (by decide) rfl vw_X6_swap ml_X6_76 (by decide) rfl hl.1 rfl (Nat.le_of_ble_eq_true rfl) dX6_nextNumbering_95) hf (fun _ h H locs hp hf => ?_)
      refine z_iinc cx (fun x9 => [(4, .int (ii x9)), (0, .ref (B + u0)), (1, .int (ii u1)), (2, .int (ii u2)), (5, .int (ii v5))]) dX6_nextNumbering_98 hl (k := 3) rfl (by decide) (fun _ => rfl) hf (fun x9 rx9 hf ls hl => ?_)
      refine z_iinc cx (fun x10 => [(5, .int (ii x10)), (4, .int (ii x9)), (0, .ref (B + u0)), (1, .int (ii u1)), (2, .int (ii u2))]) dX6_nextNumbering_101 hl (k := 4) rfl (by decide) (fun _ => rfl) hf (fun x10 rx10 hf ls hl => ?_)
      refine lv_goto (tgt := 83) cx.1 cx.2.1 dX6_nextNumbering_104 (by decide) ?_
      exact ih x9 x10 h _ _ ls rx9 rx10 hp (lv_sub hl [2, 3, 4, 1, 0] rfl) hf
    · exact hk107 u2 h _ _ ls ru2 hp (lv_sub hl [0, 1, 2] rfl) hf
def LX6_nextNumbering_41 (F : Nat) (u0 : Nat) (u1 : Int) (u2 : Int) (k67 : Int → Int → HF → RO) : Nat → Int → HF → RO
  | 0, _, _ => none
  | n + 1, v3, h =>
    if u2 < v3 then (
      zrd h (u0 + 3) v3 fun x11 =>
      zrd h (u0 + 3) u2 fun x12 =>
      if x11 < x12 then (
        zlet (wr (v3 + (-1))) fun x13 =>
        LX6_nextNumbering_41 F u0 u1 u2 k67 n x13 h
      ) else (
        k67 u2 v3 h
      )
    ) else (
      k67 u2 v3 h
    )
set_option maxHeartbeats 4000000 in
set_option maxRecDepth 100000 in
theorem wX6_nextNumbering_41 {p : Program} {l : Launch} {e : Env} {s : State} {m : MethodId} {args : Array Value} {below : List Frame} {meth : Method} {c : Code} {Q : State → Prop} {g : zG} {B : Nat} {o : Int × HF} (F : Nat) (cx : Cx p s m args meth c cX6_nextNumbering 6 RX6 (some .boolean) g B) (u0 : Nat) (ru0 : kt u0 = 9) (u1 : Int) (ru1 : rng u1) (u2 : Int) (ru2 : rng u2) (k67 : Int → Int → HF → RO) (hk67 : ∀ (x2 : Int) (x3 : Int) (h : HF) (H : Heap) (locs : List Loc) (ls : Array Slot), rng x2 → rng x3 → Hp g B s h H locs → lv_has ls 6 [(0, .ref (B + u0)), (1, .int (ii u1)), (2, .int (ii x2)), (3, .int (ii x3))] → k67 x2 x3 h = some o → W p l e (rmn 1) s m args below meth c H locs 0 0 Q (F0 m 67 ls [])) : ∀ (n : Nat) (v3 : Int) (h : HF) (H : Heap) (locs : List Loc) (ls : Array Slot), rng v3 → Hp g B s h H locs → lv_has ls 6 [(0, .ref (B + u0)), (1, .int (ii u1)), (2, .int (ii u2)), (3, .int (ii v3))] → LX6_nextNumbering_41 F u0 u1 u2 k67 n v3 h = some o → W p l e (rmn 1) s m args below meth c H locs 0 0 Q (F0 m 41 ls []) := by
  intro n
  induction n with
  | zero =>
    intro v3 h H locs ls rv3 hp hl hf
    cases hf
  | succ n ih =>
    intro v3 h H locs ls rv3 hp hl hf
    rw [LX6_nextNumbering_41] at hf
    refine lv_iload_n cx.1 cx.2.1 dX6_nextNumbering_41 rfl (lv_at hl 3 rfl) ?_
    refine lv_iload_n cx.1 cx.2.1 dX6_nextNumbering_42 rfl (lv_at hl 2 rfl) ?_
    refine z_icmp_le cx rv3 ru2 (tgt := 67) dX6_nextNumbering_43 (by decide) hf (fun _ hf => ?_) (fun _ hf => ?_)
    · refine lv_aload_n cx.1 cx.2.1 dX6_nextNumbering_46 rfl (lv_at hl 0 rfl) ?_
      refine z_gets cx hp (T := TX6) 6 4 (u0 + 3) rfl zin_6 (by decide) (by decide) ru0 rfl fl_X6_18 dX6_nextNumbering_47 ?_
      refine lv_iload_n cx.1 cx.2.1 dX6_nextNumbering_50 rfl (lv_at hl 3 rfl) ?_
      refine z_iald cx hp (zs_6_4 u0 (kt_lt ru0 (by decide)) ru0) rv3 dX6_nextNumbering_51 hf (fun x11 rx11 hf => ?_)
      refine lv_aload_n cx.1 cx.2.1 dX6_nextNumbering_52 rfl (lv_at hl 0 rfl) ?_
      refine z_gets cx hp (T := TX6) 6 4 (u0 + 3) rfl zin_6 (by decide) (by decide) ru0 rfl fl_X6_18 dX6_nextNumbering_53 ?_
      refine lv_iload_n cx.1 cx.2.1 dX6_nextNumbering_56 rfl (lv_at hl 2 rfl) ?_
      refine z_iald cx hp (zs_6_4 u0 (kt_lt ru0 (by decide)) ru0) ru2 dX6_nextNumbering_57 hf (fun x12 rx12 hf => ?_)
      refine z_icmp_ge cx rx11 rx12 (tgt := 67) dX6_nextNumbering_58 (by decide) hf (fun _ hf => ?_) (fun _ hf => ?_)
      · refine z_iinc cx (fun x13 => [(3, .int (ii x13)), (0, .ref (B + u0)), (1, .int (ii u1)), (2, .int (ii u2))]) dX6_nextNumbering_61 hl (k := 3) rfl (by decide) (fun _ => rfl) hf (fun x13 rx13 hf ls hl => ?_)
        refine lv_goto (tgt := 41) cx.1 cx.2.1 dX6_nextNumbering_64 (by decide) ?_
        exact ih x13 h _ _ ls rx13 hp (lv_sub hl [1, 2, 3, 0] rfl) hf
      · exact hk67 u2 v3 h _ _ ls ru2 rv3 hp (lv_sub hl [0, 1, 2, 3] rfl) hf
    · exact hk67 u2 v3 h _ _ ls ru2 rv3 hp (lv_sub hl [0, 1, 2, 3] rfl) hf
def LX6_nextNumbering_4 (F : Nat) (u0 : Nat) (u1 : Int) (k31 : Int → HF → RO) : Nat → Int → HF → RO
  | 0, _, _ => none
  | n + 1, v2, h =>
    if v2 < 0 then (
      k31 v2 h
    ) else (
      zrd h (u0 + 3) v2 fun x14 =>
      zrd h (u0 + 3) (wr (v2 + 1)) fun x15 =>
      if x15 < x14 then (
        zlet (wr (v2 + (-1))) fun x16 =>
        LX6_nextNumbering_4 F u0 u1 k31 n x16 h
      ) else (
        k31 v2 h
      )
    )
set_option maxHeartbeats 4000000 in
set_option maxRecDepth 100000 in
theorem wX6_nextNumbering_4 {p : Program} {l : Launch} {e : Env} {s : State} {m : MethodId} {args : Array Value} {below : List Frame} {meth : Method} {c : Code} {Q : State → Prop} {g : zG} {B : Nat} {o : Int × HF} (F : Nat) (cx : Cx p s m args meth c cX6_nextNumbering 6 RX6 (some .boolean) g B) (u0 : Nat) (ru0 : kt u0 = 9) (u1 : Int) (ru1 : rng u1) (k31 : Int → HF → RO) (hk31 : ∀ (x2 : Int) (h : HF) (H : Heap) (locs : List Loc) (ls : Array Slot), rng x2 → Hp g B s h H locs → lv_has ls 6 [(0, .ref (B + u0)), (1, .int (ii u1)), (2, .int (ii x2))] → k31 x2 h = some o → W p l e (rmn 1) s m args below meth c H locs 0 0 Q (F0 m 31 ls [])) : ∀ (n : Nat) (v2 : Int) (h : HF) (H : Heap) (locs : List Loc) (ls : Array Slot), rng v2 → Hp g B s h H locs → lv_has ls 6 [(0, .ref (B + u0)), (1, .int (ii u1)), (2, .int (ii v2))] → LX6_nextNumbering_4 F u0 u1 k31 n v2 h = some o → W p l e (rmn 1) s m args below meth c H locs 0 0 Q (F0 m 4 ls []) := by
  intro n
  induction n with
  | zero =>
    intro v2 h H locs ls rv2 hp hl hf
    cases hf
  | succ n ih =>
    intro v2 h H locs ls rv2 hp hl hf
    rw [LX6_nextNumbering_4] at hf
    refine lv_iload_n cx.1 cx.2.1 dX6_nextNumbering_4 rfl (lv_at hl 2 rfl) ?_
    refine z_if_lt cx rv2 (tgt := 31) dX6_nextNumbering_5 (by decide) hf (fun _ hf => ?_) (fun _ hf => ?_)
    · exact hk31 v2 h _ _ ls rv2 hp (lv_sub hl [0, 1, 2] rfl) hf
    · refine lv_aload_n cx.1 cx.2.1 dX6_nextNumbering_8 rfl (lv_at hl 0 rfl) ?_
      refine z_gets cx hp (T := TX6) 6 4 (u0 + 3) rfl zin_6 (by decide) (by decide) ru0 rfl fl_X6_18 dX6_nextNumbering_9 ?_
      refine lv_iload_n cx.1 cx.2.1 dX6_nextNumbering_12 rfl (lv_at hl 2 rfl) ?_
      refine z_iald cx hp (zs_6_4 u0 (kt_lt ru0 (by decide)) ru0) rv2 dX6_nextNumbering_13 hf (fun x14 rx14 hf => ?_)
      refine lv_aload_n cx.1 cx.2.1 dX6_nextNumbering_14 rfl (lv_at hl 0 rfl) ?_
      refine z_gets cx hp (T := TX6) 6 4 (u0 + 3) rfl zin_6 (by decide) (by decide) ru0 rfl fl_X6_18 dX6_nextNumbering_15 ?_
      refine lv_iload_n cx.1 cx.2.1 dX6_nextNumbering_18 rfl (lv_at hl 2 rfl) ?_
      refine z_iconst cx dX6_nextNumbering_19 ?_
      refine z_iadd cx dX6_nextNumbering_20 ?_
      refine z_iald cx hp (zs_6_4 u0 (kt_lt ru0 (by decide)) ru0) (rng_wr _) dX6_nextNumbering_21 hf (fun x15 rx15 hf => ?_)
      refine z_icmp_le cx rx14 rx15 (tgt := 31) dX6_nextNumbering_22 (by decide) hf (fun _ hf => ?_) (fun _ hf => ?_)
      · refine z_iinc cx (fun x16 => [(2, .int (ii x16)), (0, .ref (B + u0)), (1, .int (ii u1))]) dX6_nextNumbering_25 hl (k := 2) rfl (by decide) (fun _ => rfl) hf (fun x16 rx16 hf ls hl => ?_)
        refine lv_goto (tgt := 4) cx.1 cx.2.1 dX6_nextNumbering_28 (by decide) ?_
        exact ih x16 h _ _ ls rx16 hp (lv_sub hl [1, 2, 0] rfl) hf
      · exact hk31 v2 h _ _ ls rv2 hp (lv_sub hl [0, 1, 2] rfl) hf
def fX6_nextNumbering (F : Nat) (a0 : Nat) (a1 : Int) (h : HF) : RO :=
  zlet (wr (a1 - 2)) fun x1 =>
  zjn (fun (x31_2 : Int) (h : HF) => (
    if x31_2 < 0 then (
      zrz 0 h
    ) else (
      zlet (wr (a1 - 1)) fun x2 =>
      zjn (fun (x67_2 : Int) (x67_3 : Int) (h : HF) => (
        zbd (fX6_swap F a0 x67_2 x67_3 h) fun _ h =>
        zlet (wr (x67_2 + 1)) fun x4 =>
        zlet (wr (a1 - 1)) fun x5 =>
        zjn (fun (x107_2 : Int) (h : HF) => (
          zjn (fun  (h : HF) => (
            zrz 1 h
          )) fun j136 =>
          LX6_nextNumbering_110 F a0 a1 j136 F x107_2 h
        )) fun j107 =>
        LX6_nextNumbering_83 F a0 a1 x67_2 j107 F x4 x5 h
      )) fun j67 =>
      LX6_nextNumbering_41 F a0 a1 x31_2 j67 F x2 h
    )
  )) fun j31 =>
  LX6_nextNumbering_4 F a0 a1 j31 F x1 h
set_option maxHeartbeats 4000000 in
set_option maxRecDepth 100000 in
theorem mX6_nextNumbering (F : Nat) (l : Launch) (g : zG) (B : Nat) (h : HF) (a0 : Nat) (a1 : Int) (ra0 : kt a0 = 9) (ra1 : rng a1) : CTi l g B yX6_nextNumbering cX6_nextNumbering 6 (some .boolean) 1 [.ref (B + a0), .int (ii a1)] h (fX6_nextNumbering F a0 a1 h) := by
  refine z_enterI (by decide) rfl (Nat.le_of_ble_eq_true rfl) ?_
  intro p e s m args below meth c ls o Q cx hp hl hf hQ
  have hl : lv_has ls 6 [(0, .ref (B + a0)), (1, .int (ii a1))] := hl
  unfold fX6_nextNumbering at hf
  refine lv_iload_n cx.1 cx.2.1 dX6_nextNumbering_0 rfl (lv_at hl 1 rfl) ?_
  refine z_iconst cx dX6_nextNumbering_1 ?_
  refine z_isub cx dX6_nextNumbering_2 ?_
  refine z_let (rng_wr _) hf (fun x1 rx1 hf => ?_)
  refine lv_istore_n (lv' := [(2, .int (ii x1)), (0, .ref (B + a0)), (1, .int (ii a1))]) cx.1 cx.2.1 dX6_nextNumbering_3 rfl hl (by decide) rfl (fun ls hl => ?_)
  refine z_jn hf (fun j => ∀ (x31_2 : Int) (h : HF) (H : Heap) (locs : List Loc) (ls : Array Slot), rng x31_2 → Hp g B s h H locs → lv_has ls 6 [(0, .ref (B + a0)), (1, .int (ii a1)), (2, .int (ii x31_2))] → j x31_2 h = some o → W p l e (rmn 1) s m args below meth c H locs 0 0 Q (F0 m 31 ls [])) ?_ (fun j31 hj31 hf => ?_)
  · intro x31_2 h H locs ls rx31_2 hp hl hf
    refine lv_iload_n cx.1 cx.2.1 dX6_nextNumbering_31 rfl (lv_at hl 2 rfl) ?_
    refine z_if_ge cx rx31_2 (tgt := 37) dX6_nextNumbering_32 (by decide) hf (fun _ hf => ?_) (fun _ hf => ?_)
    · refine z_iconst cx dX6_nextNumbering_35 ?_
      rw [hQ]; exact z_zret cx hp dX6_nextNumbering_36 hf
    · refine lv_iload_n cx.1 cx.2.1 dX6_nextNumbering_37 rfl (lv_at hl 1 rfl) ?_
      refine z_iconst cx dX6_nextNumbering_38 ?_
      refine z_isub cx dX6_nextNumbering_39 ?_
      refine z_let (rng_wr _) hf (fun x2 rx2 hf => ?_)
      refine lv_istore_n (lv' := [(3, .int (ii x2)), (0, .ref (B + a0)), (1, .int (ii a1)), (2, .int (ii x31_2))]) cx.1 cx.2.1 dX6_nextNumbering_40 rfl hl (by decide) rfl (fun ls hl => ?_)
      refine z_jn hf (fun j => ∀ (x67_2 : Int) (x67_3 : Int) (h : HF) (H : Heap) (locs : List Loc) (ls : Array Slot), rng x67_2 → rng x67_3 → Hp g B s h H locs → lv_has ls 6 [(0, .ref (B + a0)), (1, .int (ii a1)), (2, .int (ii x67_2)), (3, .int (ii x67_3))] → j x67_2 x67_3 h = some o → W p l e (rmn 1) s m args below meth c H locs 0 0 Q (F0 m 67 ls [])) ?_ (fun j67 hj67 hf => ?_)
      · intro x67_2 x67_3 h H locs ls rx67_2 rx67_3 hp hl hf
        refine lv_aload_n cx.1 cx.2.1 dX6_nextNumbering_67 rfl (lv_at hl 0 rfl) ?_
        refine lv_iload_n cx.1 cx.2.1 dX6_nextNumbering_68 rfl (lv_at hl 2 rfl) ?_
        refine lv_iload_n cx.1 cx.2.1 dX6_nextNumbering_69 rfl (lv_at hl 3 rfl) ?_
        refine z_cv cx hp (fun o' hx => zrunV (n := 1) (As := [.int (ii x67_2), .int (ii x67_3)]) (rest := []) cx hp (mX6_swap F l g B h a0 x67_2 x67_3 ra0 rx67_2 rx67_3 o' hx) 6 ra0 (by decide) rfl vw_X6_swap ml_X6_76 (by decide) rfl hl.1 rfl (Nat.le_of_ble_eq_true rfl) dX6_nextNumbering_70) hf (fun _ h H locs hp hf => ?_)
        refine lv_iload_n cx.1 cx.2.1 dX6_nextNumbering_73 rfl (lv_at hl 2 rfl) ?_
        refine z_iconst cx dX6_nextNumbering_74 ?_
        refine z_iadd cx dX6_nextNumbering_75 ?_
        refine z_let (rng_wr _) hf (fun x4 rx4 hf => ?_)
        refine lv_istore (lv' := [(4, .int (ii x4)), (0, .ref (B + a0)), (1, .int (ii a1)), (2, .int (ii x67_2)), (3, .int (ii x67_3))]) cx.1 cx.2.1 dX6_nextNumbering_76 hl (by decide) rfl (fun ls hl => ?_)
        refine lv_iload_n cx.1 cx.2.1 dX6_nextNumbering_78 rfl (lv_at hl 2 rfl) ?_
        refine z_iconst cx dX6_nextNumbering_79 ?_
        refine z_isub cx dX6_nextNumbering_80 ?_
        refine z_let (rng_wr _) hf (fun x5 rx5 hf => ?_)
        refine lv_istore (lv' := [(5, .int (ii x5)), (4, .int (ii x4)), (0, .ref (B + a0)), (1, .int (ii a1)), (2, .int (ii x67_2)), (3, .int (ii x67_3))]) cx.1 cx.2.1 dX6_nextNumbering_81 hl (by decide) rfl (fun ls hl => ?_)
        refine z_jn hf (fun j => ∀ (x107_2 : Int) (h : HF) (H : Heap) (locs : List Loc) (ls : Array Slot), rng x107_2 → Hp g B s h H locs → lv_has ls 6 [(0, .ref (B + a0)), (1, .int (ii a1)), (2, .int (ii x107_2))] → j x107_2 h = some o → W p l e (rmn 1) s m args below meth c H locs 0 0 Q (F0 m 107 ls [])) ?_ (fun j107 hj107 hf => ?_)
        · intro x107_2 h H locs ls rx107_2 hp hl hf
          refine lv_iload_n cx.1 cx.2.1 dX6_nextNumbering_107 rfl (lv_at hl 2 rfl) ?_
          refine lv_istore (lv' := [(4, .int (ii x107_2)), (0, .ref (B + a0)), (1, .int (ii a1)), (2, .int (ii x107_2))]) cx.1 cx.2.1 dX6_nextNumbering_108 hl (by decide) rfl (fun ls hl => ?_)
          refine z_jn hf (fun j => ∀  (h : HF) (H : Heap) (locs : List Loc) (ls : Array Slot), Hp g B s h H locs → lv_has ls 6 [] → j  h = some o → W p l e (rmn 1) s m args below meth c H locs 0 0 Q (F0 m 136 ls [])) ?_ (fun j136 hj136 hf => ?_)
          · intro  h H locs ls  hp hl hf
            refine z_iconst cx dX6_nextNumbering_136 ?_
            rw [hQ]; exact z_zret cx hp dX6_nextNumbering_137 hf
          exact wX6_nextNumbering_110 F cx a0 ra0 a1 ra1 j136 hj136 F x107_2 h _ _ ls rx107_2 hp (lv_sub hl [1, 2, 0] rfl) hf
        exact wX6_nextNumbering_83 F cx a0 ra0 a1 ra1 x67_2 rx67_2 j107 hj107 F x4 x5 h _ _ ls rx4 rx5 hp (lv_sub hl [2, 3, 4, 1, 0] rfl) hf
      exact wX6_nextNumbering_41 F cx a0 ra0 a1 ra1 x31_2 rx31_2 j67 hj67 F x2 h _ _ ls rx2 hp (lv_sub hl [1, 2, 3, 0] rfl) hf
  exact wX6_nextNumbering_4 F cx a0 ra0 a1 ra1 j31 hj31 F x1 h _ _ ls rx1 hp (lv_sub hl [1, 2, 0] rfl) hf
theorem dX7_sortCells_0 : decode cX7_sortCells 0 = .ok (.aload_n 0, 1) := by decide +kernel
theorem dX7_sortCells_1 : decode cX7_sortCells 1 = .ok (.iconst 0, 1) := by decide +kernel
theorem dX7_sortCells_2 : decode cX7_sortCells 2 = .ok (.putfield 61, 3) := by decide +kernel
theorem dX7_sortCells_5 : decode cX7_sortCells 5 = .ok (.iconst 0, 1) := by decide +kernel
theorem dX7_sortCells_6 : decode cX7_sortCells 6 = .ok (.istore_n 1, 1) := by decide +kernel
theorem dX7_sortCells_7 : decode cX7_sortCells 7 = .ok (.iload_n 1, 1) := by decide +kernel
theorem dX7_sortCells_8 : decode cX7_sortCells 8 = .ok (.aload_n 0, 1) := by decide +kernel
theorem dX7_sortCells_9 : decode cX7_sortCells 9 = .ok (.getfield 30, 3) := by decide +kernel
theorem dX7_sortCells_12 : decode cX7_sortCells 12 = .ok (.getfield 64, 3) := by decide +kernel
theorem dX7_sortCells_15 : decode cX7_sortCells 15 = .ok (.if_icmp .ge 44, 3) := by decide +kernel
theorem dX7_sortCells_18 : decode cX7_sortCells 18 = .ok (.iconst 0, 1) := by decide +kernel
theorem dX7_sortCells_19 : decode cX7_sortCells 19 = .ok (.istore_n 2, 1) := by decide +kernel
theorem dX7_sortCells_20 : decode cX7_sortCells 20 = .ok (.iload_n 2, 1) := by decide +kernel
theorem dX7_sortCells_21 : decode cX7_sortCells 21 = .ok (.aload_n 0, 1) := by decide +kernel
theorem dX7_sortCells_22 : decode cX7_sortCells 22 = .ok (.getfield 30, 3) := by decide +kernel
theorem dX7_sortCells_25 : decode cX7_sortCells 25 = .ok (.getfield 69, 3) := by decide +kernel
theorem dX7_sortCells_28 : decode cX7_sortCells 28 = .ok (.if_icmp .ge 15, 3) := by decide +kernel
theorem dX7_sortCells_31 : decode cX7_sortCells 31 = .ok (.aload_n 0, 1) := by decide +kernel
theorem dX7_sortCells_32 : decode cX7_sortCells 32 = .ok (.iload_n 2, 1) := by decide +kernel
theorem dX7_sortCells_33 : decode cX7_sortCells 33 = .ok (.iload_n 1, 1) := by decide +kernel
theorem dX7_sortCells_34 : decode cX7_sortCells 34 = .ok (.invokevirtual 72, 3) := by decide +kernel
theorem dX7_sortCells_37 : decode cX7_sortCells 37 = .ok (.iinc 2 1, 3) := by decide +kernel
theorem dX7_sortCells_40 : decode cX7_sortCells 40 = .ok (.goto (-20), 3) := by decide +kernel
theorem dX7_sortCells_43 : decode cX7_sortCells 43 = .ok (.aload_n 0, 1) := by decide +kernel
theorem dX7_sortCells_44 : decode cX7_sortCells 44 = .ok (.getfield 27, 3) := by decide +kernel
theorem dX7_sortCells_47 : decode cX7_sortCells 47 = .ok (.iload_n 1, 1) := by decide +kernel
theorem dX7_sortCells_48 : decode cX7_sortCells 48 = .ok (.aload_n 0, 1) := by decide +kernel
theorem dX7_sortCells_49 : decode cX7_sortCells 49 = .ok (.getfield 61, 3) := by decide +kernel
theorem dX7_sortCells_52 : decode cX7_sortCells 52 = .ok (.iastore, 1) := by decide +kernel
theorem dX7_sortCells_53 : decode cX7_sortCells 53 = .ok (.iinc 1 1, 3) := by decide +kernel
theorem dX7_sortCells_56 : decode cX7_sortCells 56 = .ok (.goto (-49), 3) := by decide +kernel
theorem dX7_sortCells_59 : decode cX7_sortCells 59 = .ok (.return_, 1) := by decide +kernel
def LX7_sortCells_20 (F : Nat) (u0 : Nat) (u1 : Int) (k43 : Int → HF → RO) : Nat → Int → HF → RO
  | 0, _, _ => none
  | n + 1, v2, h =>
    zgd h u0 2 fun x5 =>
    zgf h x5 1 fun x6 =>
    if v2 < x6 then (
      zbd (fX7_sortCellsOf F u0 v2 u1 h) fun _ h =>
      zlet (wr (v2 + 1)) fun x8 =>
      LX7_sortCells_20 F u0 u1 k43 n x8 h
    ) else (
      k43 u1 h
    )
set_option maxHeartbeats 4000000 in
set_option maxRecDepth 100000 in
theorem wX7_sortCells_20 {p : Program} {l : Launch} {e : Env} {s : State} {m : MethodId} {args : Array Value} {below : List Frame} {meth : Method} {c : Code} {Q : State → Prop} {g : zG} {B : Nat} {o : Int × HF} (F : Nat) (cx : Cx p s m args meth c cX7_sortCells 3 RX7 none g B) (u0 : Nat) (ru0 : kt u0 = 10) (u1 : Int) (ru1 : rng u1) (k43 : Int → HF → RO) (hk43 : ∀ (x1 : Int) (h : HF) (H : Heap) (locs : List Loc) (ls : Array Slot), rng x1 → Hp g B s h H locs → lv_has ls 3 [(0, .ref (B + u0)), (1, .int (ii x1))] → k43 x1 h = some o → W p l e (rmn 3) s m args below meth c H locs 0 0 Q (F0 m 43 ls [])) : ∀ (n : Nat) (v2 : Int) (h : HF) (H : Heap) (locs : List Loc) (ls : Array Slot), rng v2 → Hp g B s h H locs → lv_has ls 3 [(0, .ref (B + u0)), (1, .int (ii u1)), (2, .int (ii v2))] → LX7_sortCells_20 F u0 u1 k43 n v2 h = some o → W p l e (rmn 3) s m args below meth c H locs 0 0 Q (F0 m 20 ls []) := by
  intro n
  induction n with
  | zero =>
    intro v2 h H locs ls rv2 hp hl hf
    cases hf
  | succ n ih =>
    intro v2 h H locs ls rv2 hp hl hf
    rw [LX7_sortCells_20] at hf
    refine lv_iload_n cx.1 cx.2.1 dX7_sortCells_20 rfl (lv_at hl 2 rfl) ?_
    refine lv_aload_n cx.1 cx.2.1 dX7_sortCells_21 rfl (lv_at hl 0 rfl) ?_
    refine z_getd cx hp (T := TX7) 7 2 3 rfl zin_7 (by decide) (by decide) ru0 rfl fl_X7_30 dX7_sortCells_22 hf (fun x5 rx5 hf => ?_)
    refine z_geti cx hp (T := TX0) 0 1 rfl zin_0 (by decide) (by decide) rx5 rfl fl_X7_69 dX7_sortCells_25 hf (fun x6 rx6 hf => ?_)
    refine z_icmp_ge cx rv2 rx6 (tgt := 43) dX7_sortCells_28 (by decide) hf (fun _ hf => ?_) (fun _ hf => ?_)
    · refine lv_aload_n cx.1 cx.2.1 dX7_sortCells_31 rfl (lv_at hl 0 rfl) ?_
      refine lv_iload_n cx.1 cx.2.1 dX7_sortCells_32 rfl (lv_at hl 2 rfl) ?_
      refine lv_iload_n cx.1 cx.2.1 dX7_sortCells_33 rfl (lv_at hl 1 rfl) ?_
      refine z_cv cx hp (fun o' hx => zrunV (n := 3) (As := [.int (ii v2), .int (ii u1)]) (rest := []) cx hp (mX7_sortCellsOf F l g B h u0 v2 u1 ru0 rv2 ru1 o' hx) 7 ru0 (by decide) rfl vw_X7_sortCellsOf ml_X7_72 (by decide) rfl hl.1 rfl (Nat.le_of_ble_eq_true rfl) dX7_sortCells_34) hf (fun _ h H locs hp hf => ?_)
      refine z_iinc cx (fun x8 => [(2, .int (ii x8)), (0, .ref (B + u0)), (1, .int (ii u1))]) dX7_sortCells_37 hl (k := 2) rfl (by decide) (fun _ => rfl) hf (fun x8 rx8 hf ls hl => ?_)
      refine lv_goto (tgt := 20) cx.1 cx.2.1 dX7_sortCells_40 (by decide) ?_
      exact ih x8 h _ _ ls rx8 hp (lv_sub hl [1, 2, 0] rfl) hf
    · exact hk43 u1 h _ _ ls ru1 hp (lv_sub hl [0, 1] rfl) hf
def LX7_sortCells_7 (F : Nat) (u0 : Nat) (k59 : HF → RO) : Nat → Int → HF → RO
  | 0, _, _ => none
  | n + 1, v1, h =>
    zgd h u0 2 fun x1 =>
    zgf h x1 0 fun x2 =>
    if v1 < x2 then (
      zjn (fun (x43_1 : Int) (h : HF) => (
        zgf h u0 14 fun x3 =>
        zwr h (u0 + 6) x43_1 x3 fun h =>
        zlet (wr (x43_1 + 1)) fun x4 =>
        LX7_sortCells_7 F u0 k59 n x4 h
      )) fun j43 =>
      LX7_sortCells_20 F u0 v1 j43 F 0 h
    ) else (
      k59  h
    )
set_option maxHeartbeats 4000000 in
set_option maxRecDepth 100000 in
theorem wX7_sortCells_7 {p : Program} {l : Launch} {e : Env} {s : State} {m : MethodId} {args : Array Value} {below : List Frame} {meth : Method} {c : Code} {Q : State → Prop} {g : zG} {B : Nat} {o : Int × HF} (F : Nat) (cx : Cx p s m args meth c cX7_sortCells 3 RX7 none g B) (u0 : Nat) (ru0 : kt u0 = 10) (k59 : HF → RO) (hk59 : ∀  (h : HF) (H : Heap) (locs : List Loc) (ls : Array Slot), Hp g B s h H locs → lv_has ls 3 [] → k59  h = some o → W p l e (rmn 3) s m args below meth c H locs 0 0 Q (F0 m 59 ls [])) : ∀ (n : Nat) (v1 : Int) (h : HF) (H : Heap) (locs : List Loc) (ls : Array Slot), rng v1 → Hp g B s h H locs → lv_has ls 3 [(0, .ref (B + u0)), (1, .int (ii v1))] → LX7_sortCells_7 F u0 k59 n v1 h = some o → W p l e (rmn 3) s m args below meth c H locs 0 0 Q (F0 m 7 ls []) := by
  intro n
  induction n with
  | zero =>
    intro v1 h H locs ls rv1 hp hl hf
    cases hf
  | succ n ih =>
    intro v1 h H locs ls rv1 hp hl hf
    rw [LX7_sortCells_7] at hf
    refine lv_iload_n cx.1 cx.2.1 dX7_sortCells_7 rfl (lv_at hl 1 rfl) ?_
    refine lv_aload_n cx.1 cx.2.1 dX7_sortCells_8 rfl (lv_at hl 0 rfl) ?_
    refine z_getd cx hp (T := TX7) 7 2 3 rfl zin_7 (by decide) (by decide) ru0 rfl fl_X7_30 dX7_sortCells_9 hf (fun x1 rx1 hf => ?_)
    refine z_geti cx hp (T := TX0) 0 0 rfl zin_0 (by decide) (by decide) rx1 rfl fl_X7_64 dX7_sortCells_12 hf (fun x2 rx2 hf => ?_)
    refine z_icmp_ge cx rv1 rx2 (tgt := 59) dX7_sortCells_15 (by decide) hf (fun _ hf => ?_) (fun _ hf => ?_)
    · refine z_iconst cx dX7_sortCells_18 ?_
      refine lv_istore_n (lv' := [(2, .int (ii 0)), (0, .ref (B + u0)), (1, .int (ii v1))]) cx.1 cx.2.1 dX7_sortCells_19 rfl hl (by decide) rfl (fun ls hl => ?_)
      refine z_jn hf (fun j => ∀ (x43_1 : Int) (h : HF) (H : Heap) (locs : List Loc) (ls : Array Slot), rng x43_1 → Hp g B s h H locs → lv_has ls 3 [(0, .ref (B + u0)), (1, .int (ii x43_1))] → j x43_1 h = some o → W p l e (rmn 3) s m args below meth c H locs 0 0 Q (F0 m 43 ls [])) ?_ (fun j43 hj43 hf => ?_)
      · intro x43_1 h H locs ls rx43_1 hp hl hf
        refine lv_aload_n cx.1 cx.2.1 dX7_sortCells_43 rfl (lv_at hl 0 rfl) ?_
        refine z_gets cx hp (T := TX7) 7 13 (u0 + 6) rfl zin_7 (by decide) (by decide) ru0 rfl fl_X7_27 dX7_sortCells_44 ?_
        refine lv_iload_n cx.1 cx.2.1 dX7_sortCells_47 rfl (lv_at hl 1 rfl) ?_
        refine lv_aload_n cx.1 cx.2.1 dX7_sortCells_48 rfl (lv_at hl 0 rfl) ?_
        refine z_geti cx hp (T := TX7) 7 14 rfl zin_7 (by decide) (by decide) ru0 rfl fl_X7_61 dX7_sortCells_49 hf (fun x3 rx3 hf => ?_)
        refine z_iast cx hp (zs_7_13 u0 (kt_lt ru0 (by decide)) ru0) rx43_1 rx3 dX7_sortCells_52 hf (fun h H locs hp hf => ?_)
        refine z_iinc cx (fun x4 => [(1, .int (ii x4)), (0, .ref (B + u0))]) dX7_sortCells_53 hl (k := 1) rfl (by decide) (fun _ => rfl) hf (fun x4 rx4 hf ls hl => ?_)
        refine lv_goto (tgt := 7) cx.1 cx.2.1 dX7_sortCells_56 (by decide) ?_
        exact ih x4 h _ _ ls rx4 hp (lv_sub hl [1, 0] rfl) hf
      exact wX7_sortCells_20 F cx u0 ru0 v1 rv1 j43 hj43 F 0 h _ _ ls (by decide) hp (lv_sub hl [1, 2, 0] rfl) hf
    · exact hk59  h _ _ ls  hp (lv_sub hl [] rfl) hf
def fX7_sortCells (F : Nat) (a0 : Nat) (h : HF) : RO :=
  zpf h a0 14 0 fun h =>
  zjn (fun  (h : HF) => (
    some (0, h)
  )) fun j59 =>
  LX7_sortCells_7 F a0 j59 F 0 h
set_option maxHeartbeats 4000000 in
set_option maxRecDepth 100000 in
theorem mX7_sortCells (F : Nat) (l : Launch) (g : zG) (B : Nat) (h : HF) (a0 : Nat) (ra0 : kt a0 = 10) : CTv l g B yX7_sortCells cX7_sortCells 3 3 [.ref (B + a0)] h (fX7_sortCells F a0 h) := by
  refine z_enterV (by decide) rfl (Nat.le_of_ble_eq_true rfl) ?_
  intro p e s m args below meth c ls o Q cx hp hl hf hQ
  have hl : lv_has ls 3 [(0, .ref (B + a0))] := hl
  unfold fX7_sortCells at hf
  refine lv_aload_n cx.1 cx.2.1 dX7_sortCells_0 rfl (lv_at hl 0 rfl) ?_
  refine z_iconst cx dX7_sortCells_1 ?_
  refine z_puti cx hp (T := TX7) tyX7 tyX7_ok nmX7 7 14 (by decide) rfl zin_7 (by decide) (by decide) ra0 rfl rfl rfl fl_X7_61 dX7_sortCells_2 hf (fun h H locs hp hf => ?_)
  refine z_iconst cx dX7_sortCells_5 ?_
  refine lv_istore_n (lv' := [(1, .int (ii 0)), (0, .ref (B + a0))]) cx.1 cx.2.1 dX7_sortCells_6 rfl hl (by decide) rfl (fun ls hl => ?_)
  refine z_jn hf (fun j => ∀  (h : HF) (H : Heap) (locs : List Loc) (ls : Array Slot), Hp g B s h H locs → lv_has ls 3 [] → j  h = some o → W p l e (rmn 3) s m args below meth c H locs 0 0 Q (F0 m 59 ls [])) ?_ (fun j59 hj59 hf => ?_)
  · intro  h H locs ls  hp hl hf
    rw [hQ]; exact z_vret cx hp dX7_sortCells_59 hf
  exact wX7_sortCells_7 F cx a0 ra0 j59 hj59 F 0 h _ _ ls (by decide) hp (lv_sub hl [1, 0] rfl) hf
theorem dX7_give_0 : decode cX7_give 0 = .ok (.iload_n 3, 1) := by decide +kernel
theorem dX7_give_1 : decode cX7_give 1 = .ok (.iconst 1, 1) := by decide +kernel
theorem dX7_give_2 : decode cX7_give 2 = .ok (.iload_n 2, 1) := by decide +kernel
theorem dX7_give_3 : decode cX7_give 3 = .ok (.ishl, 1) := by decide +kernel
theorem dX7_give_4 : decode cX7_give 4 = .ok (.ior, 1) := by decide +kernel
theorem dX7_give_5 : decode cX7_give 5 = .ok (.istore 4, 2) := by decide +kernel
theorem dX7_give_7 : decode cX7_give 7 = .ok (.aload_n 0, 1) := by decide +kernel
theorem dX7_give_8 : decode cX7_give 8 = .ok (.getfield 30, 3) := by decide +kernel
theorem dX7_give_11 : decode cX7_give 11 = .ok (.getfield 64, 3) := by decide +kernel
theorem dX7_give_14 : decode cX7_give 14 = .ok (.iconst 1, 1) := by decide +kernel
theorem dX7_give_15 : decode cX7_give 15 = .ok (.isub, 1) := by decide +kernel
theorem dX7_give_16 : decode cX7_give 16 = .ok (.iload_n 1, 1) := by decide +kernel
theorem dX7_give_17 : decode cX7_give 17 = .ok (.isub, 1) := by decide +kernel
theorem dX7_give_18 : decode cX7_give 18 = .ok (.istore 5, 2) := by decide +kernel
theorem dX7_give_20 : decode cX7_give 20 = .ok (.aload_n 0, 1) := by decide +kernel
theorem dX7_give_21 : decode cX7_give 21 = .ok (.getfield 41, 3) := by decide +kernel
theorem dX7_give_24 : decode cX7_give 24 = .ok (.ifCond .eq 9, 3) := by decide +kernel
theorem dX7_give_27 : decode cX7_give 27 = .ok (.iload 4, 2) := by decide +kernel
theorem dX7_give_29 : decode cX7_give 29 = .ok (.iload_n 3, 1) := by decide +kernel
theorem dX7_give_30 : decode cX7_give 30 = .ok (.if_icmp .eq 28, 3) := by decide +kernel
theorem dX7_give_33 : decode cX7_give 33 = .ok (.aload_n 0, 1) := by decide +kernel
theorem dX7_give_34 : decode cX7_give 34 = .ok (.getfield 45, 3) := by decide +kernel
theorem dX7_give_37 : decode cX7_give 37 = .ok (.ifCond .eq 22, 3) := by decide +kernel
theorem dX7_give_40 : decode cX7_give 40 = .ok (.aload_n 0, 1) := by decide +kernel
theorem dX7_give_41 : decode cX7_give 41 = .ok (.getfield 34, 3) := by decide +kernel
theorem dX7_give_44 : decode cX7_give 44 = .ok (.getfield 64, 3) := by decide +kernel
theorem dX7_give_47 : decode cX7_give 47 = .ok (.iload 4, 2) := by decide +kernel
theorem dX7_give_49 : decode cX7_give 49 = .ok (.invokestatic 99, 3) := by decide +kernel
theorem dX7_give_52 : decode cX7_give 52 = .ok (.isub, 1) := by decide +kernel
theorem dX7_give_53 : decode cX7_give 53 = .ok (.iload 5, 2) := by decide +kernel
theorem dX7_give_55 : decode cX7_give 55 = .ok (.if_icmp .le 4, 3) := by decide +kernel
theorem dX7_give_58 : decode cX7_give 58 = .ok (.return_, 1) := by decide +kernel
theorem dX7_give_59 : decode cX7_give 59 = .ok (.aload_n 0, 1) := by decide +kernel
theorem dX7_give_60 : decode cX7_give 60 = .ok (.getfield 9, 3) := by decide +kernel
theorem dX7_give_63 : decode cX7_give 63 = .ok (.iload_n 1, 1) := by decide +kernel
theorem dX7_give_64 : decode cX7_give 64 = .ok (.iload_n 2, 1) := by decide +kernel
theorem dX7_give_65 : decode cX7_give 65 = .ok (.iastore, 1) := by decide +kernel
theorem dX7_give_66 : decode cX7_give 66 = .ok (.aload_n 0, 1) := by decide +kernel
theorem dX7_give_67 : decode cX7_give 67 = .ok (.iload_n 1, 1) := by decide +kernel
theorem dX7_give_68 : decode cX7_give 68 = .ok (.invokevirtual 104, 3) := by decide +kernel
theorem dX7_give_71 : decode cX7_give 71 = .ok (.ifCond .eq 12, 3) := by decide +kernel
theorem dX7_give_74 : decode cX7_give 74 = .ok (.aload_n 0, 1) := by decide +kernel
theorem dX7_give_75 : decode cX7_give 75 = .ok (.iload_n 1, 1) := by decide +kernel
theorem dX7_give_76 : decode cX7_give 76 = .ok (.iconst 1, 1) := by decide +kernel
theorem dX7_give_77 : decode cX7_give 77 = .ok (.iadd, 1) := by decide +kernel
theorem dX7_give_78 : decode cX7_give 78 = .ok (.iload 4, 2) := by decide +kernel
theorem dX7_give_80 : decode cX7_give 80 = .ok (.invokevirtual 57, 3) := by decide +kernel
theorem dX7_give_83 : decode cX7_give 83 = .ok (.return_, 1) := by decide +kernel
def fX7_give (F : Nat) (rf : Nat → Int → Int → HF → RO) (a0 : Nat) (a1 : Int) (a2 : Int) (a3 : Int) (h : HF) : RO :=
  zlet (wor a3 (wshl 1 a2)) fun x1 =>
  zgd h a0 2 fun x2 =>
  zgf h x2 0 fun x3 =>
  zlet (wr ((wr (x3 - 1)) - a1)) fun x4 =>
  zgf h a0 5 fun x5 =>
  zjn (fun  (h : HF) => (
    some (0, h)
  )) fun j58 =>
  zjn (fun (x33_4 : Int) (x33_5 : Int) (h : HF) => (
    zgf h a0 6 fun x6 =>
    zjn (fun (x59_4 : Int) (h : HF) => (
      zwr h (a0 + 1) a1 a2 fun h =>
      zbd (fX7_keepsCells F a0 a1 h) fun r7 h =>
      zjn (fun  (h : HF) => (
        some (0, h)
      )) fun j83 =>
      if r7 = 0 then (
        j83  h
      ) else (
        zbd (rf a0 (wr (a1 + 1)) x59_4 h) fun _ h =>
        j83  h
      )
    )) fun j59 =>
    if x6 = 0 then (
      j59 x33_4 h
    ) else (
      zgd h a0 3 fun x9 =>
      zgf h x9 0 fun x10 =>
      zbd (fJ6_bitCount_0f7a4 F x33_4 h) fun r11 h =>
      if x33_5 < wr (x10 - r11) then (
        j58  h
      ) else (
        j59 x33_4 h
      )
    )
  )) fun j33 =>
  if x5 = 0 then (
    j33 x1 x4 h
  ) else (
    if x1 = a3 then (
      j58  h
    ) else (
      j33 x1 x4 h
    )
  )
set_option maxHeartbeats 4000000 in
set_option maxRecDepth 100000 in
theorem mX7_give (F : Nat) (rf : Nat → Int → Int → HF → RO) (kr : Nat) (l : Launch) (g : zG) (B : Nat) (hrf : ∀ (h : HF) (b0 : Nat) (b1 : Int) (b2 : Int), kt b0 = 10 → rng b1 → rng b2 → CTv l g B yX7_extend cX7_extend 4 kr [.ref (B + b0), .int (ii b1), .int (ii b2)] h (rf b0 b1 b2 h)) (h : HF) (a0 : Nat) (a1 : Int) (a2 : Int) (a3 : Int) (ra0 : kt a0 = 10) (ra1 : rng a1) (ra2 : rng a2) (ra3 : rng a3) : CTv l g B yX7_give cX7_give 6 (kr + 3) [.ref (B + a0), .int (ii a1), .int (ii a2), .int (ii a3)] h (fX7_give F rf a0 a1 a2 a3 h) := by
  refine z_enterV (by decide) rfl (Nat.le_of_ble_eq_true rfl) ?_
  intro p e s m args below meth c ls o Q cx hp hl hf hQ
  have hl : lv_has ls 6 [(0, .ref (B + a0)), (1, .int (ii a1)), (2, .int (ii a2)), (3, .int (ii a3))] := hl
  unfold fX7_give at hf
  refine lv_iload_n cx.1 cx.2.1 dX7_give_0 rfl (lv_at hl 3 rfl) ?_
  refine z_iconst cx dX7_give_1 ?_
  refine lv_iload_n cx.1 cx.2.1 dX7_give_2 rfl (lv_at hl 2 rfl) ?_
  refine z_ishl cx dX7_give_3 ?_
  refine z_ior cx dX7_give_4 ?_
  refine z_let (rng_or _ _) hf (fun x1 rx1 hf => ?_)
  refine lv_istore (lv' := [(4, .int (ii x1)), (0, .ref (B + a0)), (1, .int (ii a1)), (2, .int (ii a2)), (3, .int (ii a3))]) cx.1 cx.2.1 dX7_give_5 hl (by decide) rfl (fun ls hl => ?_)
  refine lv_aload_n cx.1 cx.2.1 dX7_give_7 rfl (lv_at hl 1 rfl) ?_
  refine z_getd cx hp (T := TX7) 7 2 3 rfl zin_7 (by decide) (by decide) ra0 rfl fl_X7_30 dX7_give_8 hf (fun x2 rx2 hf => ?_)
  refine z_geti cx hp (T := TX0) 0 0 rfl zin_0 (by decide) (by decide) rx2 rfl fl_X7_64 dX7_give_11 hf (fun x3 rx3 hf => ?_)
  refine z_iconst cx dX7_give_14 ?_
  refine z_isub cx dX7_give_15 ?_
  refine lv_iload_n cx.1 cx.2.1 dX7_give_16 rfl (lv_at hl 2 rfl) ?_
  refine z_isub cx dX7_give_17 ?_
  refine z_let (rng_wr _) hf (fun x4 rx4 hf => ?_)
  refine lv_istore (lv' := [(5, .int (ii x4)), (4, .int (ii x1)), (0, .ref (B + a0)), (1, .int (ii a1)), (2, .int (ii a2)), (3, .int (ii a3))]) cx.1 cx.2.1 dX7_give_18 hl (by decide) rfl (fun ls hl => ?_)
  refine lv_aload_n cx.1 cx.2.1 dX7_give_20 rfl (lv_at hl 2 rfl) ?_
  refine z_getz cx hp (T := TX7) 7 5 rfl zin_7 (by decide) (by decide) ra0 rfl fl_X7_41 dX7_give_21 hf (fun x5 rx5 hf => ?_)
  refine z_jn hf (fun j => ∀  (h : HF) (H : Heap) (locs : List Loc) (ls : Array Slot), Hp g B s h H locs → lv_has ls 6 [] → j  h = some o → W p l e (rmn (kr + 3)) s m args below meth c H locs 0 0 Q (F0 m 58 ls [])) ?_ (fun j58 hj58 hf => ?_)
  · intro  h H locs ls  hp hl hf
    rw [hQ]; exact z_vret cx hp dX7_give_58 hf
  refine z_jn hf (fun j => ∀ (x33_4 : Int) (x33_5 : Int) (h : HF) (H : Heap) (locs : List Loc) (ls : Array Slot), rng x33_4 → rng x33_5 → Hp g B s h H locs → lv_has ls 6 [(0, .ref (B + a0)), (1, .int (ii a1)), (2, .int (ii a2)), (4, .int (ii x33_4)), (5, .int (ii x33_5))] → j x33_4 x33_5 h = some o → W p l e (rmn (kr + 3)) s m args below meth c H locs 0 0 Q (F0 m 33 ls [])) ?_ (fun j33 hj33 hf => ?_)
  · intro x33_4 x33_5 h H locs ls rx33_4 rx33_5 hp hl hf
    refine lv_aload_n cx.1 cx.2.1 dX7_give_33 rfl (lv_at hl 0 rfl) ?_
    refine z_getz cx hp (T := TX7) 7 6 rfl zin_7 (by decide) (by decide) ra0 rfl fl_X7_45 dX7_give_34 hf (fun x6 rx6 hf => ?_)
    refine z_jn hf (fun j => ∀ (x59_4 : Int) (h : HF) (H : Heap) (locs : List Loc) (ls : Array Slot), rng x59_4 → Hp g B s h H locs → lv_has ls 6 [(0, .ref (B + a0)), (1, .int (ii a1)), (2, .int (ii a2)), (4, .int (ii x59_4))] → j x59_4 h = some o → W p l e (rmn (kr + 3)) s m args below meth c H locs 0 0 Q (F0 m 59 ls [])) ?_ (fun j59 hj59 hf => ?_)
    · intro x59_4 h H locs ls rx59_4 hp hl hf
      refine lv_aload_n cx.1 cx.2.1 dX7_give_59 rfl (lv_at hl 0 rfl) ?_
      refine z_gets cx hp (T := TX7) 7 8 (a0 + 1) rfl zin_7 (by decide) (by decide) ra0 rfl fl_X7_9 dX7_give_60 ?_
      refine lv_iload_n cx.1 cx.2.1 dX7_give_63 rfl (lv_at hl 1 rfl) ?_
      refine lv_iload_n cx.1 cx.2.1 dX7_give_64 rfl (lv_at hl 2 rfl) ?_
      refine z_iast cx hp (zs_7_8 a0 (kt_lt ra0 (by decide)) ra0) ra1 ra2 dX7_give_65 hf (fun h H locs hp hf => ?_)
      refine lv_aload_n cx.1 cx.2.1 dX7_give_66 rfl (lv_at hl 0 rfl) ?_
      refine lv_iload_n cx.1 cx.2.1 dX7_give_67 rfl (lv_at hl 1 rfl) ?_
      refine z_ci cx hp (fun o' hx => zrunV (n := (kr + 3)) (As := [.int (ii a1)]) (rest := []) cx hp (mX7_keepsCells F l g B h a0 a1 ra0 ra1 o' hx) 7 ra0 (by decide) rfl vw_X7_keepsCells ml_X7_104 (by omega) rfl hl.1 rfl (Nat.le_of_ble_eq_true rfl) dX7_give_68) hf (fun r7 h H locs rr7 hp hf => ?_)
      refine z_jn hf (fun j => ∀  (h : HF) (H : Heap) (locs : List Loc) (ls : Array Slot), Hp g B s h H locs → lv_has ls 6 [] → j  h = some o → W p l e (rmn (kr + 3)) s m args below meth c H locs 0 0 Q (F0 m 83 ls [])) ?_ (fun j83 hj83 hf => ?_)
      · intro  h H locs ls  hp hl hf
        rw [hQ]; exact z_vret cx hp dX7_give_83 hf
      refine z_if_eq cx rr7 (tgt := 83) dX7_give_71 (by decide) hf (fun _ hf => ?_) (fun _ hf => ?_)
      · exact hj83  h _ _ ls  hp (lv_sub hl [] rfl) hf
      · refine lv_aload_n cx.1 cx.2.1 dX7_give_74 rfl (lv_at hl 0 rfl) ?_
        refine lv_iload_n cx.1 cx.2.1 dX7_give_75 rfl (lv_at hl 1 rfl) ?_
        refine z_iconst cx dX7_give_76 ?_
        refine z_iadd cx dX7_give_77 ?_
        refine lv_iload cx.1 cx.2.1 dX7_give_78 (lv_at hl 3 rfl) ?_
        refine z_cv cx hp (fun o' hx => zrunV (n := (kr + 3)) (As := [.int (ii (wr (a1 + 1))), .int (ii x59_4)]) (rest := []) cx hp (hrf h a0 (wr (a1 + 1)) x59_4 ra0 (rng_wr _) rx59_4 o' hx) 7 ra0 (by decide) rfl vw_X7_extend ml_X7_57 (by omega) rfl hl.1 rfl (Nat.le_of_ble_eq_true rfl) dX7_give_80) hf (fun _ h H locs hp hf => ?_)
        exact hj83  h _ _ ls  hp (lv_sub hl [] rfl) hf
    refine z_if_eq cx rx6 (tgt := 59) dX7_give_37 (by decide) hf (fun _ hf => ?_) (fun _ hf => ?_)
    · exact hj59 x33_4 h _ _ ls rx33_4 hp (lv_sub hl [0, 1, 2, 3] rfl) hf
    · refine lv_aload_n cx.1 cx.2.1 dX7_give_40 rfl (lv_at hl 0 rfl) ?_
      refine z_getd cx hp (T := TX7) 7 3 3 rfl zin_7 (by decide) (by decide) ra0 rfl fl_X7_34 dX7_give_41 hf (fun x9 rx9 hf => ?_)
      refine z_geti cx hp (T := TX0) 0 0 rfl zin_0 (by decide) (by decide) rx9 rfl fl_X7_64 dX7_give_44 hf (fun x10 rx10 hf => ?_)
      refine lv_iload cx.1 cx.2.1 dX7_give_47 (lv_at hl 3 rfl) ?_
      refine z_ci cx hp (fun o' hx => zrunS (n := (kr + 3)) (As := [.int (ii x33_4)]) (rest := [.int (ii x10)]) cx hp (mJ6_bitCount_0f7a4 F l g B h x33_4 rx33_4 o' hx) sw_J6_bitCount_0f7a4 ml_X7_99 (by omega) rfl hl.1 rfl (Nat.le_of_ble_eq_true rfl) dX7_give_49) hf (fun r11 h H locs rr11 hp hf => ?_)
      refine z_isub cx dX7_give_52 ?_
      refine lv_iload cx.1 cx.2.1 dX7_give_53 (lv_at hl 4 rfl) ?_
      refine z_icmp_le cx (rng_wr _) rx33_5 (tgt := 59) dX7_give_55 (by decide) hf (fun _ hf => ?_) (fun _ hf => ?_)
      · exact hj58  h _ _ ls  hp (lv_sub hl [] rfl) hf
      · exact hj59 x33_4 h _ _ ls rx33_4 hp (lv_sub hl [0, 1, 2, 3] rfl) hf
  refine z_if_eq cx rx5 (tgt := 33) dX7_give_24 (by decide) hf (fun _ hf => ?_) (fun _ hf => ?_)
  · exact hj33 x1 x4 h _ _ ls rx1 rx4 hp (lv_sub hl [2, 3, 4, 1, 0] rfl) hf
  · refine lv_iload cx.1 cx.2.1 dX7_give_27 (lv_at hl 1 rfl) ?_
    refine lv_iload_n cx.1 cx.2.1 dX7_give_29 rfl (lv_at hl 5 rfl) ?_
    refine z_icmp_eq cx rx1 ra3 (tgt := 58) dX7_give_30 (by decide) hf (fun _ hf => ?_) (fun _ hf => ?_)
    · exact hj58  h _ _ ls  hp (lv_sub hl [] rfl) hf
    · exact hj33 x1 x4 h _ _ ls rx1 rx4 hp (lv_sub hl [2, 3, 4, 1, 0] rfl) hf
theorem dX7_meet_0 : decode cX7_meet 0 = .ok (.aload_n 0, 1) := by decide +kernel
theorem dX7_meet_1 : decode cX7_meet 1 = .ok (.getfield 51, 3) := by decide +kernel
theorem dX7_meet_4 : decode cX7_meet 4 = .ok (.aload_n 0, 1) := by decide +kernel
theorem dX7_meet_5 : decode cX7_meet 5 = .ok (.getfield 37, 3) := by decide +kernel
theorem dX7_meet_8 : decode cX7_meet 8 = .ok (.if_icmp .ne 26, 3) := by decide +kernel
theorem dX7_meet_11 : decode cX7_meet 11 = .ok (.aload_n 0, 1) := by decide +kernel
theorem dX7_meet_12 : decode cX7_meet 12 = .ok (.aload_n 0, 1) := by decide +kernel
theorem dX7_meet_13 : decode cX7_meet 13 = .ok (.getfield 9, 3) := by decide +kernel
theorem dX7_meet_16 : decode cX7_meet 16 = .ok (.aload_n 0, 1) := by decide +kernel
theorem dX7_meet_17 : decode cX7_meet 17 = .ok (.getfield 30, 3) := by decide +kernel
theorem dX7_meet_20 : decode cX7_meet 20 = .ok (.getfield 64, 3) := by decide +kernel
theorem dX7_meet_23 : decode cX7_meet 23 = .ok (.invokestatic 108, 3) := by decide +kernel
theorem dX7_meet_26 : decode cX7_meet 26 = .ok (.putfield 112, 3) := by decide +kernel
theorem dX7_meet_29 : decode cX7_meet 29 = .ok (.aload_n 0, 1) := by decide +kernel
theorem dX7_meet_30 : decode cX7_meet 30 = .ok (.iconst 1, 1) := by decide +kernel
theorem dX7_meet_31 : decode cX7_meet 31 = .ok (.putfield 48, 3) := by decide +kernel
theorem dX7_meet_34 : decode cX7_meet 34 = .ok (.aload_n 0, 1) := by decide +kernel
theorem dX7_meet_35 : decode cX7_meet 35 = .ok (.dup, 1) := by decide +kernel
theorem dX7_meet_36 : decode cX7_meet 36 = .ok (.getfield 51, 3) := by decide +kernel
theorem dX7_meet_39 : decode cX7_meet 39 = .ok (.iconst 1, 1) := by decide +kernel
theorem dX7_meet_40 : decode cX7_meet 40 = .ok (.iadd, 1) := by decide +kernel
theorem dX7_meet_41 : decode cX7_meet 41 = .ok (.putfield 51, 3) := by decide +kernel
theorem dX7_meet_44 : decode cX7_meet 44 = .ok (.return_, 1) := by decide +kernel
def fX7_meet (F : Nat) (a0 : Nat) (h : HF) : RO :=
  zgf h a0 0 fun x1 =>
  zgf h a0 4 fun x2 =>
  zjn (fun  (h : HF) => (
    zgf h a0 0 fun x3 =>
    zpf h a0 0 (wr (x3 + 1)) fun h =>
    some (0, h)
  )) fun j34 =>
  if x1 = x2 then (
    zgd h a0 2 fun x4 =>
    zgf h x4 0 fun x5 =>
    zbd (fX11_encode F (a0 + 1) x5 h) fun r6 h =>
    zpf h a0 1 r6 fun h =>
    zpz h a0 7 1 fun h =>
    j34  h
  ) else (
    j34  h
  )
set_option maxHeartbeats 4000000 in
set_option maxRecDepth 100000 in
theorem mX7_meet (F : Nat) (l : Launch) (g : zG) (B : Nat) (h : HF) (a0 : Nat) (ra0 : kt a0 = 10) : CTv l g B yX7_meet cX7_meet 1 1 [.ref (B + a0)] h (fX7_meet F a0 h) := by
  refine z_enterV (by decide) rfl (Nat.le_of_ble_eq_true rfl) ?_
  intro p e s m args below meth c ls o Q cx hp hl hf hQ
  have hl : lv_has ls 1 [(0, .ref (B + a0))] := hl
  unfold fX7_meet at hf
  refine lv_aload_n cx.1 cx.2.1 dX7_meet_0 rfl (lv_at hl 0 rfl) ?_
  refine z_geti cx hp (T := TX7) 7 0 rfl zin_7 (by decide) (by decide) ra0 rfl fl_X7_51 dX7_meet_1 hf (fun x1 rx1 hf => ?_)
  refine lv_aload_n cx.1 cx.2.1 dX7_meet_4 rfl (lv_at hl 0 rfl) ?_
  refine z_geti cx hp (T := TX7) 7 4 rfl zin_7 (by decide) (by decide) ra0 rfl fl_X7_37 dX7_meet_5 hf (fun x2 rx2 hf => ?_)
  refine z_jn hf (fun j => ∀  (h : HF) (H : Heap) (locs : List Loc) (ls : Array Slot), Hp g B s h H locs → lv_has ls 1 [(0, .ref (B + a0))] → j  h = some o → W p l e (rmn 1) s m args below meth c H locs 0 0 Q (F0 m 34 ls [])) ?_ (fun j34 hj34 hf => ?_)
  · intro  h H locs ls  hp hl hf
    refine lv_aload_n cx.1 cx.2.1 dX7_meet_34 rfl (lv_at hl 0 rfl) ?_
    refine lv_dup cx.1 cx.2.1 dX7_meet_35 rfl ?_
    refine z_geti cx hp (T := TX7) 7 0 rfl zin_7 (by decide) (by decide) ra0 rfl fl_X7_51 dX7_meet_36 hf (fun x3 rx3 hf => ?_)
    refine z_iconst cx dX7_meet_39 ?_
    refine z_iadd cx dX7_meet_40 ?_
    refine z_puti cx hp (T := TX7) tyX7 tyX7_ok nmX7 7 0 (rng_wr _) rfl zin_7 (by decide) (by decide) ra0 rfl rfl rfl fl_X7_51 dX7_meet_41 hf (fun h H locs hp hf => ?_)
    rw [hQ]; exact z_vret cx hp dX7_meet_44 hf
  refine z_icmp_ne cx rx1 rx2 (tgt := 34) dX7_meet_8 (by decide) hf (fun _ hf => ?_) (fun _ hf => ?_)
  · refine lv_aload_n cx.1 cx.2.1 dX7_meet_11 rfl (lv_at hl 0 rfl) ?_
    refine lv_aload_n cx.1 cx.2.1 dX7_meet_12 rfl (lv_at hl 0 rfl) ?_
    refine z_gets cx hp (T := TX7) 7 8 (a0 + 1) rfl zin_7 (by decide) (by decide) ra0 rfl fl_X7_9 dX7_meet_13 ?_
    refine lv_aload_n cx.1 cx.2.1 dX7_meet_16 rfl (lv_at hl 0 rfl) ?_
    refine z_getd cx hp (T := TX7) 7 2 3 rfl zin_7 (by decide) (by decide) ra0 rfl fl_X7_30 dX7_meet_17 hf (fun x4 rx4 hf => ?_)
    refine z_geti cx hp (T := TX0) 0 0 rfl zin_0 (by decide) (by decide) rx4 rfl fl_X7_64 dX7_meet_20 hf (fun x5 rx5 hf => ?_)
    refine z_ci cx hp (fun o' hx => zrunSN (n := 1) (As := [.ref (B + (a0 + 1)), .int (ii x5)]) (rest := [.ref (B + a0)]) cx hp (mX11_encode F l g B h (a0 + 1) x5 (zs_7_8 a0 (kt_lt ra0 (by decide)) ra0) rx5 o' hx) sw_X11_encode mn_X7_108 (by decide) rfl hl.1 rfl (Nat.le_of_ble_eq_true rfl) dX7_meet_23) hf (fun r6 h H locs rr6 hp hf => ?_)
    refine z_puti cx hp (T := TX7) tyX7 tyX7_ok nmX7 7 1 rr6 rfl zin_7 (by decide) (by decide) ra0 rfl rfl rfl fl_X7_112 dX7_meet_26 hf (fun h H locs hp hf => ?_)
    refine lv_aload_n cx.1 cx.2.1 dX7_meet_29 rfl (lv_at hl 0 rfl) ?_
    refine z_iconst cx dX7_meet_30 ?_
    refine z_putz cx hp (T := TX7) tyX7 tyX7_ok nmX7 7 7 rfl zin_7 (by decide) (by decide) ra0 rfl rfl rfl fl_X7_48 dX7_meet_31 hf (fun h H locs hp hf => ?_)
    exact hj34  h _ _ ls  hp (lv_sub hl [0] rfl) hf
  · exact hj34  h _ _ ls  hp (lv_sub hl [0] rfl) hf
theorem dX8_advance_0 : decode cX8_advance 0 = .ok (.aload_n 1, 1) := by decide +kernel
theorem dX8_advance_1 : decode cX8_advance 1 = .ok (.getfield 63, 3) := by decide +kernel
theorem dX8_advance_4 : decode cX8_advance 4 = .ok (.iload_n 2, 1) := by decide +kernel
theorem dX8_advance_5 : decode cX8_advance 5 = .ok (.iconst 1, 1) := by decide +kernel
theorem dX8_advance_6 : decode cX8_advance 6 = .ok (.iadd, 1) := by decide +kernel
theorem dX8_advance_7 : decode cX8_advance 7 = .ok (.aload_n 1, 1) := by decide +kernel
theorem dX8_advance_8 : decode cX8_advance 8 = .ok (.invokevirtual 59, 3) := by decide +kernel
theorem dX8_advance_11 : decode cX8_advance 11 = .ok (.iconst 0, 1) := by decide +kernel
theorem dX8_advance_12 : decode cX8_advance 12 = .ok (.invokestatic 66, 3) := by decide +kernel
theorem dX8_advance_15 : decode cX8_advance 15 = .ok (.iload_n 2, 1) := by decide +kernel
theorem dX8_advance_16 : decode cX8_advance 16 = .ok (.istore_n 3, 1) := by decide +kernel
theorem dX8_advance_17 : decode cX8_advance 17 = .ok (.iload_n 3, 1) := by decide +kernel
theorem dX8_advance_18 : decode cX8_advance 18 = .ok (.ifCond .lt 43, 3) := by decide +kernel
theorem dX8_advance_21 : decode cX8_advance 21 = .ok (.aload_n 1, 1) := by decide +kernel
theorem dX8_advance_22 : decode cX8_advance 22 = .ok (.getfield 63, 3) := by decide +kernel
theorem dX8_advance_25 : decode cX8_advance 25 = .ok (.iload_n 3, 1) := by decide +kernel
theorem dX8_advance_26 : decode cX8_advance 26 = .ok (.iaload, 1) := by decide +kernel
theorem dX8_advance_27 : decode cX8_advance 27 = .ok (.iconst 1, 1) := by decide +kernel
theorem dX8_advance_28 : decode cX8_advance 28 = .ok (.iadd, 1) := by decide +kernel
theorem dX8_advance_29 : decode cX8_advance 29 = .ok (.aload_n 1, 1) := by decide +kernel
theorem dX8_advance_30 : decode cX8_advance 30 = .ok (.getfield 54, 3) := by decide +kernel
theorem dX8_advance_33 : decode cX8_advance 33 = .ok (.if_icmp .ge 15, 3) := by decide +kernel
theorem dX8_advance_36 : decode cX8_advance 36 = .ok (.aload_n 1, 1) := by decide +kernel
theorem dX8_advance_37 : decode cX8_advance 37 = .ok (.getfield 63, 3) := by decide +kernel
theorem dX8_advance_40 : decode cX8_advance 40 = .ok (.iload_n 3, 1) := by decide +kernel
theorem dX8_advance_41 : decode cX8_advance 41 = .ok (.dup2, 1) := by decide +kernel
theorem dX8_advance_42 : decode cX8_advance 42 = .ok (.iaload, 1) := by decide +kernel
theorem dX8_advance_43 : decode cX8_advance 43 = .ok (.iconst 1, 1) := by decide +kernel
theorem dX8_advance_44 : decode cX8_advance 44 = .ok (.iadd, 1) := by decide +kernel
theorem dX8_advance_45 : decode cX8_advance 45 = .ok (.iastore, 1) := by decide +kernel
theorem dX8_advance_46 : decode cX8_advance 46 = .ok (.iconst 1, 1) := by decide +kernel
theorem dX8_advance_47 : decode cX8_advance 47 = .ok (.ireturn, 1) := by decide +kernel
theorem dX8_advance_48 : decode cX8_advance 48 = .ok (.aload_n 1, 1) := by decide +kernel
theorem dX8_advance_49 : decode cX8_advance 49 = .ok (.getfield 63, 3) := by decide +kernel
theorem dX8_advance_52 : decode cX8_advance 52 = .ok (.iload_n 3, 1) := by decide +kernel
theorem dX8_advance_53 : decode cX8_advance 53 = .ok (.iconst 0, 1) := by decide +kernel
theorem dX8_advance_54 : decode cX8_advance 54 = .ok (.iastore, 1) := by decide +kernel
theorem dX8_advance_55 : decode cX8_advance 55 = .ok (.iinc 3 (-1), 3) := by decide +kernel
theorem dX8_advance_58 : decode cX8_advance 58 = .ok (.goto (-41), 3) := by decide +kernel
theorem dX8_advance_61 : decode cX8_advance 61 = .ok (.iconst 0, 1) := by decide +kernel
theorem dX8_advance_62 : decode cX8_advance 62 = .ok (.ireturn, 1) := by decide +kernel
def LX8_advance_17 (F : Nat) (u1 : Nat) (k61 : HF → RO) (k36 : Int → HF → RO) : Nat → Int → HF → RO
  | 0, _, _ => none
  | n + 1, v3, h =>
    if v3 < 0 then (
      k61  h
    ) else (
      zrd h (u1 + 3) v3 fun x4 =>
      zgf h u1 0 fun x5 =>
      if wr (x4 + 1) < x5 then (
        k36 v3 h
      ) else (
        zwr h (u1 + 3) v3 0 fun h =>
        zlet (wr (v3 + (-1))) fun x6 =>
        LX8_advance_17 F u1 k61 k36 n x6 h
      )
    )
set_option maxHeartbeats 4000000 in
set_option maxRecDepth 100000 in
theorem wX8_advance_17 {p : Program} {l : Launch} {e : Env} {s : State} {m : MethodId} {args : Array Value} {below : List Frame} {meth : Method} {c : Code} {Q : State → Prop} {g : zG} {B : Nat} {o : Int × HF} (F : Nat) (cx : Cx p s m args meth c cX8_advance 4 RX8 (some .boolean) g B) (u1 : Nat) (ru1 : kt u1 = 3) (k61 : HF → RO) (hk61 : ∀  (h : HF) (H : Heap) (locs : List Loc) (ls : Array Slot), Hp g B s h H locs → lv_has ls 4 [] → k61  h = some o → W p l e (rmn 2) s m args below meth c H locs 0 0 Q (F0 m 61 ls [])) (k36 : Int → HF → RO) (hk36 : ∀ (x3 : Int) (h : HF) (H : Heap) (locs : List Loc) (ls : Array Slot), rng x3 → Hp g B s h H locs → lv_has ls 4 [(1, .ref (B + u1)), (3, .int (ii x3))] → k36 x3 h = some o → W p l e (rmn 2) s m args below meth c H locs 0 0 Q (F0 m 36 ls [])) : ∀ (n : Nat) (v3 : Int) (h : HF) (H : Heap) (locs : List Loc) (ls : Array Slot), rng v3 → Hp g B s h H locs → lv_has ls 4 [(1, .ref (B + u1)), (3, .int (ii v3))] → LX8_advance_17 F u1 k61 k36 n v3 h = some o → W p l e (rmn 2) s m args below meth c H locs 0 0 Q (F0 m 17 ls []) := by
  intro n
  induction n with
  | zero =>
    intro v3 h H locs ls rv3 hp hl hf
    cases hf
  | succ n ih =>
    intro v3 h H locs ls rv3 hp hl hf
    rw [LX8_advance_17] at hf
    refine lv_iload_n cx.1 cx.2.1 dX8_advance_17 rfl (lv_at hl 1 rfl) ?_
    refine z_if_lt cx rv3 (tgt := 61) dX8_advance_18 (by decide) hf (fun _ hf => ?_) (fun _ hf => ?_)
    · exact hk61  h _ _ ls  hp (lv_sub hl [] rfl) hf
    · refine lv_aload_n cx.1 cx.2.1 dX8_advance_21 rfl (lv_at hl 0 rfl) ?_
      refine z_gets cx hp (T := TX0) 0 5 (u1 + 3) rfl zin_0 (by decide) (by decide) ru1 rfl fl_X8_63 dX8_advance_22 ?_
      refine lv_iload_n cx.1 cx.2.1 dX8_advance_25 rfl (lv_at hl 1 rfl) ?_
      refine z_iald cx hp (zs_0_5 u1 (kt_lt ru1 (by decide)) ru1) rv3 dX8_advance_26 hf (fun x4 rx4 hf => ?_)
      refine z_iconst cx dX8_advance_27 ?_
      refine z_iadd cx dX8_advance_28 ?_
      refine lv_aload_n cx.1 cx.2.1 dX8_advance_29 rfl (lv_at hl 0 rfl) ?_
      refine z_geti cx hp (T := TX0) 0 0 rfl zin_0 (by decide) (by decide) ru1 rfl fl_X8_54 dX8_advance_30 hf (fun x5 rx5 hf => ?_)
      refine z_icmp_ge cx (rng_wr _) rx5 (tgt := 48) dX8_advance_33 (by decide) hf (fun _ hf => ?_) (fun _ hf => ?_)
      · exact hk36 v3 h _ _ ls rv3 hp (lv_sub hl [0, 1] rfl) hf
      · refine lv_aload_n cx.1 cx.2.1 dX8_advance_48 rfl (lv_at hl 0 rfl) ?_
        refine z_gets cx hp (T := TX0) 0 5 (u1 + 3) rfl zin_0 (by decide) (by decide) ru1 rfl fl_X8_63 dX8_advance_49 ?_
        refine lv_iload_n cx.1 cx.2.1 dX8_advance_52 rfl (lv_at hl 1 rfl) ?_
        refine z_iconst cx dX8_advance_53 ?_
        refine z_iast cx hp (zs_0_5 u1 (kt_lt ru1 (by decide)) ru1) rv3 (by decide) dX8_advance_54 hf (fun h H locs hp hf => ?_)
        refine z_iinc cx (fun x6 => [(3, .int (ii x6)), (1, .ref (B + u1))]) dX8_advance_55 hl (k := 1) rfl (by decide) (fun _ => rfl) hf (fun x6 rx6 hf ls hl => ?_)
        refine lv_goto (tgt := 17) cx.1 cx.2.1 dX8_advance_58 (by decide) ?_
        exact ih x6 h _ _ ls rx6 hp (lv_sub hl [1, 0] rfl) hf
def fX8_advance (F : Nat) (a0 : Nat) (a1 : Nat) (a2 : Int) (h : HF) : RO :=
  zbd (fX0_cellCount F a1 h) fun r1 h =>
  zbd (fJ7_fill_fda19 F (a1 + 3) (wr (a2 + 1)) r1 0 h) fun _ h =>
  zjn (fun  (h : HF) => (
    zrz 0 h
  )) fun j61 =>
  zjn (fun (x36_3 : Int) (h : HF) => (
    zrd h (a1 + 3) x36_3 fun x3 =>
    zwr h (a1 + 3) x36_3 (wr (x3 + 1)) fun h =>
    zrz 1 h
  )) fun j36 =>
  LX8_advance_17 F a1 j61 j36 F a2 h
set_option maxHeartbeats 4000000 in
set_option maxRecDepth 100000 in
theorem mX8_advance (F : Nat) (l : Launch) (g : zG) (B : Nat) (h : HF) (a0 : Nat) (a1 : Nat) (a2 : Int) (ra0 : kt a0 = 11) (ra1 : kt a1 = 3) (ra2 : rng a2) : CTi l g B yX8_advance cX8_advance 4 (some .boolean) 2 [.ref (B + a0), .ref (B + a1), .int (ii a2)] h (fX8_advance F a0 a1 a2 h) := by
  refine z_enterI (by decide) rfl (Nat.le_of_ble_eq_true rfl) ?_
  intro p e s m args below meth c ls o Q cx hp hl hf hQ
  have hl : lv_has ls 4 [(0, .ref (B + a0)), (1, .ref (B + a1)), (2, .int (ii a2))] := hl
  unfold fX8_advance at hf
  refine lv_aload_n cx.1 cx.2.1 dX8_advance_0 rfl (lv_at hl 1 rfl) ?_
  refine z_gets cx hp (T := TX0) 0 5 (a1 + 3) rfl zin_0 (by decide) (by decide) ra1 rfl fl_X8_63 dX8_advance_1 ?_
  refine lv_iload_n cx.1 cx.2.1 dX8_advance_4 rfl (lv_at hl 2 rfl) ?_
  refine z_iconst cx dX8_advance_5 ?_
  refine z_iadd cx dX8_advance_6 ?_
  refine lv_aload_n cx.1 cx.2.1 dX8_advance_7 rfl (lv_at hl 1 rfl) ?_
  refine z_ci cx hp (fun o' hx => zrunV (n := 2) (As := []) (rest := [.int (ii (wr (a2 + 1))), .ref (B + (a1 + 3))]) cx hp (mX0_cellCount F l g B h a1 ra1 o' hx) 0 ra1 (by decide) rfl vw_X0_cellCount ml_X8_59 (by decide) rfl hl.1 rfl (Nat.le_of_ble_eq_true rfl) dX8_advance_8) hf (fun r1 h H locs rr1 hp hf => ?_)
  refine z_iconst cx dX8_advance_11 ?_
  refine z_cv cx hp (fun o' hx => zrunS (n := 2) (As := [.ref (B + (a1 + 3)), .int (ii (wr (a2 + 1))), .int (ii r1), .int (ii 0)]) (rest := []) cx hp (mJ7_fill_fda19 F l g B h (a1 + 3) (wr (a2 + 1)) r1 0 (zs_0_5 a1 (kt_lt ra1 (by decide)) ra1) (rng_wr _) rr1 (by decide) o' hx) sw_J7_fill_fda19 ml_X8_66 (by decide) rfl hl.1 rfl (Nat.le_of_ble_eq_true rfl) dX8_advance_12) hf (fun _ h H locs hp hf => ?_)
  refine lv_iload_n cx.1 cx.2.1 dX8_advance_15 rfl (lv_at hl 2 rfl) ?_
  refine lv_istore_n (lv' := [(3, .int (ii a2)), (0, .ref (B + a0)), (1, .ref (B + a1)), (2, .int (ii a2))]) cx.1 cx.2.1 dX8_advance_16 rfl hl (by decide) rfl (fun ls hl => ?_)
  refine z_jn hf (fun j => ∀  (h : HF) (H : Heap) (locs : List Loc) (ls : Array Slot), Hp g B s h H locs → lv_has ls 4 [] → j  h = some o → W p l e (rmn 2) s m args below meth c H locs 0 0 Q (F0 m 61 ls [])) ?_ (fun j61 hj61 hf => ?_)
  · intro  h H locs ls  hp hl hf
    refine z_iconst cx dX8_advance_61 ?_
    rw [hQ]; exact z_zret cx hp dX8_advance_62 hf
  refine z_jn hf (fun j => ∀ (x36_3 : Int) (h : HF) (H : Heap) (locs : List Loc) (ls : Array Slot), rng x36_3 → Hp g B s h H locs → lv_has ls 4 [(1, .ref (B + a1)), (3, .int (ii x36_3))] → j x36_3 h = some o → W p l e (rmn 2) s m args below meth c H locs 0 0 Q (F0 m 36 ls [])) ?_ (fun j36 hj36 hf => ?_)
  · intro x36_3 h H locs ls rx36_3 hp hl hf
    refine lv_aload_n cx.1 cx.2.1 dX8_advance_36 rfl (lv_at hl 0 rfl) ?_
    refine z_gets cx hp (T := TX0) 0 5 (a1 + 3) rfl zin_0 (by decide) (by decide) ra1 rfl fl_X8_63 dX8_advance_37 ?_
    refine lv_iload_n cx.1 cx.2.1 dX8_advance_40 rfl (lv_at hl 1 rfl) ?_
    refine lv_dup2_11 cx.1 cx.2.1 dX8_advance_41 rfl rfl ?_
    refine z_iald cx hp (zs_0_5 a1 (kt_lt ra1 (by decide)) ra1) rx36_3 dX8_advance_42 hf (fun x3 rx3 hf => ?_)
    refine z_iconst cx dX8_advance_43 ?_
    refine z_iadd cx dX8_advance_44 ?_
    refine z_iast cx hp (zs_0_5 a1 (kt_lt ra1 (by decide)) ra1) rx36_3 (rng_wr _) dX8_advance_45 hf (fun h H locs hp hf => ?_)
    refine z_iconst cx dX8_advance_46 ?_
    rw [hQ]; exact z_zret cx hp dX8_advance_47 hf
  exact wX8_advance_17 F cx a1 ra1 j61 hj61 j36 hj36 F a2 h _ _ ls ra2 hp (lv_sub hl [2, 0] rfl) hf
theorem dX9_addLine_0 : decode cX9_addLine 0 = .ok (.aload_n 0, 1) := by decide +kernel
theorem dX9_addLine_1 : decode cX9_addLine 1 = .ok (.getfield 18, 3) := by decide +kernel
theorem dX9_addLine_4 : decode cX9_addLine 4 = .ok (.aload_n 0, 1) := by decide +kernel
theorem dX9_addLine_5 : decode cX9_addLine 5 = .ok (.getfield 21, 3) := by decide +kernel
theorem dX9_addLine_8 : decode cX9_addLine 8 = .ok (.getfield 33, 3) := by decide +kernel
theorem dX9_addLine_11 : decode cX9_addLine 11 = .ok (.invokestatic 59, 3) := by decide +kernel
theorem dX9_addLine_14 : decode cX9_addLine 14 = .ok (.istore_n 1, 1) := by decide +kernel
theorem dX9_addLine_15 : decode cX9_addLine 15 = .ok (.aload_n 0, 1) := by decide +kernel
theorem dX9_addLine_16 : decode cX9_addLine 16 = .ok (.iload_n 1, 1) := by decide +kernel
theorem dX9_addLine_17 : decode cX9_addLine 17 = .ok (.invokevirtual 63, 3) := by decide +kernel
theorem dX9_addLine_20 : decode cX9_addLine 20 = .ok (.istore_n 2, 1) := by decide +kernel
theorem dX9_addLine_21 : decode cX9_addLine 21 = .ok (.iload_n 2, 1) := by decide +kernel
theorem dX9_addLine_22 : decode cX9_addLine 22 = .ok (.aload_n 0, 1) := by decide +kernel
theorem dX9_addLine_23 : decode cX9_addLine 23 = .ok (.getfield 25, 3) := by decide +kernel
theorem dX9_addLine_26 : decode cX9_addLine 26 = .ok (.if_icmp .ge 14, 3) := by decide +kernel
theorem dX9_addLine_29 : decode cX9_addLine 29 = .ok (.aload_n 0, 1) := by decide +kernel
theorem dX9_addLine_30 : decode cX9_addLine 30 = .ok (.getfield 9, 3) := by decide +kernel
theorem dX9_addLine_33 : decode cX9_addLine 33 = .ok (.iload_n 2, 1) := by decide +kernel
theorem dX9_addLine_34 : decode cX9_addLine 34 = .ok (.iaload, 1) := by decide +kernel
theorem dX9_addLine_35 : decode cX9_addLine 35 = .ok (.iload_n 1, 1) := by decide +kernel
theorem dX9_addLine_36 : decode cX9_addLine 36 = .ok (.if_icmp .ne 4, 3) := by decide +kernel
theorem dX9_addLine_39 : decode cX9_addLine 39 = .ok (.return_, 1) := by decide +kernel
theorem dX9_addLine_40 : decode cX9_addLine 40 = .ok (.aload_n 0, 1) := by decide +kernel
theorem dX9_addLine_41 : decode cX9_addLine 41 = .ok (.getfield 25, 3) := by decide +kernel
theorem dX9_addLine_44 : decode cX9_addLine 44 = .ok (.sipush 300, 3) := by decide +kernel
theorem dX9_addLine_47 : decode cX9_addLine 47 = .ok (.if_icmp .lt 9, 3) := by decide +kernel
theorem dX9_addLine_50 : decode cX9_addLine 50 = .ok (.aload_n 0, 1) := by decide +kernel
theorem dX9_addLine_51 : decode cX9_addLine 51 = .ok (.iconst 1, 1) := by decide +kernel
theorem dX9_addLine_52 : decode cX9_addLine 52 = .ok (.putfield 29, 3) := by decide +kernel
theorem dX9_addLine_55 : decode cX9_addLine 55 = .ok (.return_, 1) := by decide +kernel
theorem dX9_addLine_56 : decode cX9_addLine 56 = .ok (.aload_n 0, 1) := by decide +kernel
theorem dX9_addLine_57 : decode cX9_addLine 57 = .ok (.getfield 9, 3) := by decide +kernel
theorem dX9_addLine_60 : decode cX9_addLine 60 = .ok (.iload_n 2, 1) := by decide +kernel
theorem dX9_addLine_61 : decode cX9_addLine 61 = .ok (.aload_n 0, 1) := by decide +kernel
theorem dX9_addLine_62 : decode cX9_addLine 62 = .ok (.getfield 9, 3) := by decide +kernel
theorem dX9_addLine_65 : decode cX9_addLine 65 = .ok (.iload_n 2, 1) := by decide +kernel
theorem dX9_addLine_66 : decode cX9_addLine 66 = .ok (.iconst 1, 1) := by decide +kernel
theorem dX9_addLine_67 : decode cX9_addLine 67 = .ok (.iadd, 1) := by decide +kernel
theorem dX9_addLine_68 : decode cX9_addLine 68 = .ok (.aload_n 0, 1) := by decide +kernel
theorem dX9_addLine_69 : decode cX9_addLine 69 = .ok (.getfield 25, 3) := by decide +kernel
theorem dX9_addLine_72 : decode cX9_addLine 72 = .ok (.iload_n 2, 1) := by decide +kernel
theorem dX9_addLine_73 : decode cX9_addLine 73 = .ok (.isub, 1) := by decide +kernel
theorem dX9_addLine_74 : decode cX9_addLine 74 = .ok (.invokestatic 67, 3) := by decide +kernel
theorem dX9_addLine_77 : decode cX9_addLine 77 = .ok (.aload_n 0, 1) := by decide +kernel
theorem dX9_addLine_78 : decode cX9_addLine 78 = .ok (.getfield 9, 3) := by decide +kernel
theorem dX9_addLine_81 : decode cX9_addLine 81 = .ok (.iload_n 2, 1) := by decide +kernel
theorem dX9_addLine_82 : decode cX9_addLine 82 = .ok (.iload_n 1, 1) := by decide +kernel
theorem dX9_addLine_83 : decode cX9_addLine 83 = .ok (.iastore, 1) := by decide +kernel
theorem dX9_addLine_84 : decode cX9_addLine 84 = .ok (.aload_n 0, 1) := by decide +kernel
theorem dX9_addLine_85 : decode cX9_addLine 85 = .ok (.getfield 18, 3) := by decide +kernel
theorem dX9_addLine_88 : decode cX9_addLine 88 = .ok (.iconst 0, 1) := by decide +kernel
theorem dX9_addLine_89 : decode cX9_addLine 89 = .ok (.aload_n 0, 1) := by decide +kernel
theorem dX9_addLine_90 : decode cX9_addLine 90 = .ok (.getfield 15, 3) := by decide +kernel
theorem dX9_addLine_93 : decode cX9_addLine 93 = .ok (.aload_n 0, 1) := by decide +kernel
theorem dX9_addLine_94 : decode cX9_addLine 94 = .ok (.getfield 25, 3) := by decide +kernel
theorem dX9_addLine_97 : decode cX9_addLine 97 = .ok (.bipush 7, 2) := by decide +kernel
theorem dX9_addLine_99 : decode cX9_addLine 99 = .ok (.imul, 1) := by decide +kernel
theorem dX9_addLine_100 : decode cX9_addLine 100 = .ok (.aload_n 0, 1) := by decide +kernel
theorem dX9_addLine_101 : decode cX9_addLine 101 = .ok (.getfield 21, 3) := by decide +kernel
theorem dX9_addLine_104 : decode cX9_addLine 104 = .ok (.getfield 33, 3) := by decide +kernel
theorem dX9_addLine_107 : decode cX9_addLine 107 = .ok (.invokestatic 67, 3) := by decide +kernel
theorem dX9_addLine_110 : decode cX9_addLine 110 = .ok (.aload_n 0, 1) := by decide +kernel
theorem dX9_addLine_111 : decode cX9_addLine 111 = .ok (.dup, 1) := by decide +kernel
theorem dX9_addLine_112 : decode cX9_addLine 112 = .ok (.getfield 25, 3) := by decide +kernel
theorem dX9_addLine_115 : decode cX9_addLine 115 = .ok (.iconst 1, 1) := by decide +kernel
theorem dX9_addLine_116 : decode cX9_addLine 116 = .ok (.iadd, 1) := by decide +kernel
theorem dX9_addLine_117 : decode cX9_addLine 117 = .ok (.putfield 25, 3) := by decide +kernel
theorem dX9_addLine_120 : decode cX9_addLine 120 = .ok (.return_, 1) := by decide +kernel
def fX9_addLine (F : Nat) (a0 : Nat) (h : HF) : RO :=
  zgd h a0 5 fun x1 =>
  zgf h x1 0 fun x2 =>
  zbd (fX11_encode F (a0 + 3) x2 h) fun r3 h =>
  zbd (fX9_placeOf F a0 r3 h) fun r4 h =>
  zgf h a0 1 fun x5 =>
  zjn (fun (x40_1 : Int) (x40_2 : Int) (h : HF) => (
    zgf h a0 1 fun x6 =>
    if x6 < 300 then (
      zgf h a0 1 fun x7 =>
      zcp h (a0 + 1) x40_2 (a0 + 1) (wr (x40_2 + 1)) (wr (x7 - x40_2)) fun h =>
      zwr h (a0 + 1) x40_2 x40_1 fun h =>
      zgf h a0 1 fun x8 =>
      zgd h a0 5 fun x9 =>
      zgf h x9 0 fun x10 =>
      zcp h (a0 + 3) 0 (a0 + 2) (wr (x8 * 7)) x10 fun h =>
      zgf h a0 1 fun x11 =>
      zpf h a0 1 (wr (x11 + 1)) fun h =>
      some (0, h)
    ) else (
      zpz h a0 2 1 fun h =>
      some (0, h)
    )
  )) fun j40 =>
  if r4 < x5 then (
    zrd h (a0 + 1) r4 fun x12 =>
    if x12 = r3 then (
      some (0, h)
    ) else (
      j40 r3 r4 h
    )
  ) else (
    j40 r3 r4 h
  )
set_option maxHeartbeats 4000000 in
set_option maxRecDepth 100000 in
theorem mX9_addLine (F : Nat) (l : Launch) (g : zG) (B : Nat) (h : HF) (a0 : Nat) (ra0 : kt a0 = 12) : CTv l g B yX9_addLine cX9_addLine 3 1 [.ref (B + a0)] h (fX9_addLine F a0 h) := by
  refine z_enterV (by decide) rfl (Nat.le_of_ble_eq_true rfl) ?_
  intro p e s m args below meth c ls o Q cx hp hl hf hQ
  have hl : lv_has ls 3 [(0, .ref (B + a0))] := hl
  unfold fX9_addLine at hf
  refine lv_aload_n cx.1 cx.2.1 dX9_addLine_0 rfl (lv_at hl 0 rfl) ?_
  refine z_gets cx hp (T := TX9) 9 4 (a0 + 3) rfl zin_9 (by decide) (by decide) ra0 rfl fl_X9_18 dX9_addLine_1 ?_
  refine lv_aload_n cx.1 cx.2.1 dX9_addLine_4 rfl (lv_at hl 0 rfl) ?_
  refine z_getd cx hp (T := TX9) 9 5 3 rfl zin_9 (by decide) (by decide) ra0 rfl fl_X9_21 dX9_addLine_5 hf (fun x1 rx1 hf => ?_)
  refine z_geti cx hp (T := TX0) 0 0 rfl zin_0 (by decide) (by decide) rx1 rfl fl_X9_33 dX9_addLine_8 hf (fun x2 rx2 hf => ?_)
  refine z_ci cx hp (fun o' hx => zrunSN (n := 1) (As := [.ref (B + (a0 + 3)), .int (ii x2)]) (rest := []) cx hp (mX11_encode F l g B h (a0 + 3) x2 (zs_9_4 a0 (kt_lt ra0 (by decide)) ra0) rx2 o' hx) sw_X11_encode mn_X9_59 (by decide) rfl hl.1 rfl (Nat.le_of_ble_eq_true rfl) dX9_addLine_11) hf (fun r3 h H locs rr3 hp hf => ?_)
  refine lv_istore_n (lv' := [(1, .int (ii r3)), (0, .ref (B + a0))]) cx.1 cx.2.1 dX9_addLine_14 rfl hl (by decide) rfl (fun ls hl => ?_)
  refine lv_aload_n cx.1 cx.2.1 dX9_addLine_15 rfl (lv_at hl 1 rfl) ?_
  refine lv_iload_n cx.1 cx.2.1 dX9_addLine_16 rfl (lv_at hl 0 rfl) ?_
  refine z_ci cx hp (fun o' hx => zrunV (n := 1) (As := [.int (ii r3)]) (rest := []) cx hp (mX9_placeOf F l g B h a0 r3 ra0 rr3 o' hx) 9 ra0 (by decide) rfl vw_X9_placeOf ml_X9_63 (by decide) rfl hl.1 rfl (Nat.le_of_ble_eq_true rfl) dX9_addLine_17) hf (fun r4 h H locs rr4 hp hf => ?_)
  refine lv_istore_n (lv' := [(2, .int (ii r4)), (1, .int (ii r3)), (0, .ref (B + a0))]) cx.1 cx.2.1 dX9_addLine_20 rfl hl (by decide) rfl (fun ls hl => ?_)
  refine lv_iload_n cx.1 cx.2.1 dX9_addLine_21 rfl (lv_at hl 0 rfl) ?_
  refine lv_aload_n cx.1 cx.2.1 dX9_addLine_22 rfl (lv_at hl 2 rfl) ?_
  refine z_geti cx hp (T := TX9) 9 1 rfl zin_9 (by decide) (by decide) ra0 rfl fl_X9_25 dX9_addLine_23 hf (fun x5 rx5 hf => ?_)
  refine z_jn hf (fun j => ∀ (x40_1 : Int) (x40_2 : Int) (h : HF) (H : Heap) (locs : List Loc) (ls : Array Slot), rng x40_1 → rng x40_2 → Hp g B s h H locs → lv_has ls 3 [(0, .ref (B + a0)), (1, .int (ii x40_1)), (2, .int (ii x40_2))] → j x40_1 x40_2 h = some o → W p l e (rmn 1) s m args below meth c H locs 0 0 Q (F0 m 40 ls [])) ?_ (fun j40 hj40 hf => ?_)
  · intro x40_1 x40_2 h H locs ls rx40_1 rx40_2 hp hl hf
    refine lv_aload_n cx.1 cx.2.1 dX9_addLine_40 rfl (lv_at hl 0 rfl) ?_
    refine z_geti cx hp (T := TX9) 9 1 rfl zin_9 (by decide) (by decide) ra0 rfl fl_X9_25 dX9_addLine_41 hf (fun x6 rx6 hf => ?_)
    refine z_sipush cx (by decide) dX9_addLine_44 ?_
    refine z_icmp_lt cx rx6 (by decide) (tgt := 56) dX9_addLine_47 (by decide) hf (fun _ hf => ?_) (fun _ hf => ?_)
    · refine lv_aload_n cx.1 cx.2.1 dX9_addLine_56 rfl (lv_at hl 0 rfl) ?_
      refine z_gets cx hp (T := TX9) 9 0 (a0 + 1) rfl zin_9 (by decide) (by decide) ra0 rfl fl_X9_9 dX9_addLine_57 ?_
      refine lv_iload_n cx.1 cx.2.1 dX9_addLine_60 rfl (lv_at hl 2 rfl) ?_
      refine lv_aload_n cx.1 cx.2.1 dX9_addLine_61 rfl (lv_at hl 0 rfl) ?_
      refine z_gets cx hp (T := TX9) 9 0 (a0 + 1) rfl zin_9 (by decide) (by decide) ra0 rfl fl_X9_9 dX9_addLine_62 ?_
      refine lv_iload_n cx.1 cx.2.1 dX9_addLine_65 rfl (lv_at hl 2 rfl) ?_
      refine z_iconst cx dX9_addLine_66 ?_
      refine z_iadd cx dX9_addLine_67 ?_
      refine lv_aload_n cx.1 cx.2.1 dX9_addLine_68 rfl (lv_at hl 0 rfl) ?_
      refine z_geti cx hp (T := TX9) 9 1 rfl zin_9 (by decide) (by decide) ra0 rfl fl_X9_25 dX9_addLine_69 hf (fun x7 rx7 hf => ?_)
      refine lv_iload_n cx.1 cx.2.1 dX9_addLine_72 rfl (lv_at hl 2 rfl) ?_
      refine z_isub cx dX9_addLine_73 ?_
      refine z_acopy cx hp (n := 1) (zs_9_0 a0 (kt_lt ra0 (by decide)) ra0) rx40_2 (zs_9_0 a0 (kt_lt ra0 (by decide)) ra0) (rng_wr _) (rng_wr _) hl.1 (Nat.le_of_ble_eq_true rfl) ma_X9_67 (by decide) dX9_addLine_74 hf (fun h H locs hp hf => ?_)
      refine lv_aload_n cx.1 cx.2.1 dX9_addLine_77 rfl (lv_at hl 0 rfl) ?_
      refine z_gets cx hp (T := TX9) 9 0 (a0 + 1) rfl zin_9 (by decide) (by decide) ra0 rfl fl_X9_9 dX9_addLine_78 ?_
      refine lv_iload_n cx.1 cx.2.1 dX9_addLine_81 rfl (lv_at hl 2 rfl) ?_
      refine lv_iload_n cx.1 cx.2.1 dX9_addLine_82 rfl (lv_at hl 1 rfl) ?_
      refine z_iast cx hp (zs_9_0 a0 (kt_lt ra0 (by decide)) ra0) rx40_2 rx40_1 dX9_addLine_83 hf (fun h H locs hp hf => ?_)
      refine lv_aload_n cx.1 cx.2.1 dX9_addLine_84 rfl (lv_at hl 0 rfl) ?_
      refine z_gets cx hp (T := TX9) 9 4 (a0 + 3) rfl zin_9 (by decide) (by decide) ra0 rfl fl_X9_18 dX9_addLine_85 ?_
      refine z_iconst cx dX9_addLine_88 ?_
      refine lv_aload_n cx.1 cx.2.1 dX9_addLine_89 rfl (lv_at hl 0 rfl) ?_
      refine z_gets cx hp (T := TX9) 9 3 (a0 + 2) rfl zin_9 (by decide) (by decide) ra0 rfl fl_X9_15 dX9_addLine_90 ?_
      refine lv_aload_n cx.1 cx.2.1 dX9_addLine_93 rfl (lv_at hl 0 rfl) ?_
      refine z_geti cx hp (T := TX9) 9 1 rfl zin_9 (by decide) (by decide) ra0 rfl fl_X9_25 dX9_addLine_94 hf (fun x8 rx8 hf => ?_)
      refine z_bipush cx (by decide) dX9_addLine_97 ?_
      refine z_imul cx dX9_addLine_99 ?_
      refine lv_aload_n cx.1 cx.2.1 dX9_addLine_100 rfl (lv_at hl 0 rfl) ?_
      refine z_getd cx hp (T := TX9) 9 5 3 rfl zin_9 (by decide) (by decide) ra0 rfl fl_X9_21 dX9_addLine_101 hf (fun x9 rx9 hf => ?_)
      refine z_geti cx hp (T := TX0) 0 0 rfl zin_0 (by decide) (by decide) rx9 rfl fl_X9_33 dX9_addLine_104 hf (fun x10 rx10 hf => ?_)
      refine z_acopy cx hp (n := 1) (zs_9_4 a0 (kt_lt ra0 (by decide)) ra0) (by decide) (zs_9_3 a0 (kt_lt ra0 (by decide)) ra0) (rng_wr _) rx10 hl.1 (Nat.le_of_ble_eq_true rfl) ma_X9_67 (by decide) dX9_addLine_107 hf (fun h H locs hp hf => ?_)
      refine lv_aload_n cx.1 cx.2.1 dX9_addLine_110 rfl (lv_at hl 0 rfl) ?_
      refine lv_dup cx.1 cx.2.1 dX9_addLine_111 rfl ?_
      refine z_geti cx hp (T := TX9) 9 1 rfl zin_9 (by decide) (by decide) ra0 rfl fl_X9_25 dX9_addLine_112 hf (fun x11 rx11 hf => ?_)
      refine z_iconst cx dX9_addLine_115 ?_
      refine z_iadd cx dX9_addLine_116 ?_
      refine z_puti cx hp (T := TX9) tyX9 tyX9_ok nmX9 9 1 (rng_wr _) rfl zin_9 (by decide) (by decide) ra0 rfl rfl rfl fl_X9_25 dX9_addLine_117 hf (fun h H locs hp hf => ?_)
      rw [hQ]; exact z_vret cx hp dX9_addLine_120 hf
    · refine lv_aload_n cx.1 cx.2.1 dX9_addLine_50 rfl (lv_at hl 0 rfl) ?_
      refine z_iconst cx dX9_addLine_51 ?_
      refine z_putz cx hp (T := TX9) tyX9 tyX9_ok nmX9 9 2 rfl zin_9 (by decide) (by decide) ra0 rfl rfl rfl fl_X9_29 dX9_addLine_52 hf (fun h H locs hp hf => ?_)
      rw [hQ]; exact z_vret cx hp dX9_addLine_55 hf
  refine z_icmp_ge cx rr4 rx5 (tgt := 40) dX9_addLine_26 (by decide) hf (fun _ hf => ?_) (fun _ hf => ?_)
  · refine lv_aload_n cx.1 cx.2.1 dX9_addLine_29 rfl (lv_at hl 2 rfl) ?_
    refine z_gets cx hp (T := TX9) 9 0 (a0 + 1) rfl zin_9 (by decide) (by decide) ra0 rfl fl_X9_9 dX9_addLine_30 ?_
    refine lv_iload_n cx.1 cx.2.1 dX9_addLine_33 rfl (lv_at hl 0 rfl) ?_
    refine z_iald cx hp (zs_9_0 a0 (kt_lt ra0 (by decide)) ra0) rr4 dX9_addLine_34 hf (fun x12 rx12 hf => ?_)
    refine lv_iload_n cx.1 cx.2.1 dX9_addLine_35 rfl (lv_at hl 1 rfl) ?_
    refine z_icmp_ne cx rx12 rr3 (tgt := 40) dX9_addLine_36 (by decide) hf (fun _ hf => ?_) (fun _ hf => ?_)
    · rw [hQ]; exact z_vret cx hp dX9_addLine_39 hf
    · exact hj40 r3 r4 h _ _ ls rr3 rr4 hp (lv_sub hl [2, 1, 0] rfl) hf
  · exact hj40 r3 r4 h _ _ ls rr3 rr4 hp (lv_sub hl [2, 1, 0] rfl) hf
theorem dX10_readOperation_0 : decode cX10_readOperation 0 = .ok (.aload_n 0, 1) := by decide +kernel
theorem dX10_readOperation_1 : decode cX10_readOperation 1 = .ok (.getfield 24, 3) := by decide +kernel
theorem dX10_readOperation_4 : decode cX10_readOperation 4 = .ok (.aload_n 0, 1) := by decide +kernel
theorem dX10_readOperation_5 : decode cX10_readOperation 5 = .ok (.getfield 28, 3) := by decide +kernel
theorem dX10_readOperation_8 : decode cX10_readOperation 8 = .ok (.invokevirtual 51, 3) := by decide +kernel
theorem dX10_readOperation_11 : decode cX10_readOperation 11 = .ok (.bipush 59, 2) := by decide +kernel
theorem dX10_readOperation_13 : decode cX10_readOperation 13 = .ok (.if_icmp .eq 13, 3) := by decide +kernel
theorem dX10_readOperation_16 : decode cX10_readOperation 16 = .ok (.aload_n 0, 1) := by decide +kernel
theorem dX10_readOperation_17 : decode cX10_readOperation 17 = .ok (.aload_n 0, 1) := by decide +kernel
theorem dX10_readOperation_18 : decode cX10_readOperation 18 = .ok (.getfield 28, 3) := by decide +kernel
theorem dX10_readOperation_21 : decode cX10_readOperation 21 = .ok (.iconst 1, 1) := by decide +kernel
theorem dX10_readOperation_22 : decode cX10_readOperation 22 = .ok (.invokevirtual 55, 3) := by decide +kernel
theorem dX10_readOperation_25 : decode cX10_readOperation 25 = .ok (.ireturn, 1) := by decide +kernel
theorem dX10_readOperation_26 : decode cX10_readOperation 26 = .ok (.aload_n 1, 1) := by decide +kernel
theorem dX10_readOperation_27 : decode cX10_readOperation 27 = .ok (.getfield 68, 3) := by decide +kernel
theorem dX10_readOperation_30 : decode cX10_readOperation 30 = .ok (.iconst 4, 1) := by decide +kernel
theorem dX10_readOperation_31 : decode cX10_readOperation 31 = .ok (.if_icmp .lt 13, 3) := by decide +kernel
theorem dX10_readOperation_34 : decode cX10_readOperation 34 = .ok (.aload_n 0, 1) := by decide +kernel
theorem dX10_readOperation_35 : decode cX10_readOperation 35 = .ok (.aload_n 0, 1) := by decide +kernel
theorem dX10_readOperation_36 : decode cX10_readOperation 36 = .ok (.getfield 28, 3) := by decide +kernel
theorem dX10_readOperation_39 : decode cX10_readOperation 39 = .ok (.iconst 3, 1) := by decide +kernel
theorem dX10_readOperation_40 : decode cX10_readOperation 40 = .ok (.invokevirtual 55, 3) := by decide +kernel
theorem dX10_readOperation_43 : decode cX10_readOperation 43 = .ok (.ireturn, 1) := by decide +kernel
theorem dX10_readOperation_44 : decode cX10_readOperation 44 = .ok (.aload_n 0, 1) := by decide +kernel
theorem dX10_readOperation_45 : decode cX10_readOperation 45 = .ok (.dup, 1) := by decide +kernel
theorem dX10_readOperation_46 : decode cX10_readOperation 46 = .ok (.getfield 28, 3) := by decide +kernel
theorem dX10_readOperation_49 : decode cX10_readOperation 49 = .ok (.iconst 1, 1) := by decide +kernel
theorem dX10_readOperation_50 : decode cX10_readOperation 50 = .ok (.iadd, 1) := by decide +kernel
theorem dX10_readOperation_51 : decode cX10_readOperation 51 = .ok (.putfield 28, 3) := by decide +kernel
theorem dX10_readOperation_54 : decode cX10_readOperation 54 = .ok (.aload_n 0, 1) := by decide +kernel
theorem dX10_readOperation_55 : decode cX10_readOperation 55 = .ok (.getfield 24, 3) := by decide +kernel
theorem dX10_readOperation_58 : decode cX10_readOperation 58 = .ok (.aload_n 0, 1) := by decide +kernel
theorem dX10_readOperation_59 : decode cX10_readOperation 59 = .ok (.getfield 28, 3) := by decide +kernel
theorem dX10_readOperation_62 : decode cX10_readOperation 62 = .ok (.invokevirtual 51, 3) := by decide +kernel
theorem dX10_readOperation_65 : decode cX10_readOperation 65 = .ok (.invokestatic 71, 3) := by decide +kernel
theorem dX10_readOperation_68 : decode cX10_readOperation 68 = .ok (.istore_n 2, 1) := by decide +kernel
theorem dX10_readOperation_69 : decode cX10_readOperation 69 = .ok (.iload_n 2, 1) := by decide +kernel
theorem dX10_readOperation_70 : decode cX10_readOperation 70 = .ok (.iconst (-1), 1) := by decide +kernel
theorem dX10_readOperation_71 : decode cX10_readOperation 71 = .ok (.if_icmp .ne 13, 3) := by decide +kernel
theorem dX10_readOperation_74 : decode cX10_readOperation 74 = .ok (.aload_n 0, 1) := by decide +kernel
theorem dX10_readOperation_75 : decode cX10_readOperation 75 = .ok (.aload_n 0, 1) := by decide +kernel
theorem dX10_readOperation_76 : decode cX10_readOperation 76 = .ok (.getfield 28, 3) := by decide +kernel
theorem dX10_readOperation_79 : decode cX10_readOperation 79 = .ok (.iconst 1, 1) := by decide +kernel
theorem dX10_readOperation_80 : decode cX10_readOperation 80 = .ok (.invokevirtual 55, 3) := by decide +kernel
theorem dX10_readOperation_83 : decode cX10_readOperation 83 = .ok (.ireturn, 1) := by decide +kernel
theorem dX10_readOperation_84 : decode cX10_readOperation 84 = .ok (.aload_n 0, 1) := by decide +kernel
theorem dX10_readOperation_85 : decode cX10_readOperation 85 = .ok (.dup, 1) := by decide +kernel
theorem dX10_readOperation_86 : decode cX10_readOperation 86 = .ok (.getfield 28, 3) := by decide +kernel
theorem dX10_readOperation_89 : decode cX10_readOperation 89 = .ok (.iconst 1, 1) := by decide +kernel
theorem dX10_readOperation_90 : decode cX10_readOperation 90 = .ok (.iadd, 1) := by decide +kernel
theorem dX10_readOperation_91 : decode cX10_readOperation 91 = .ok (.putfield 28, 3) := by decide +kernel
theorem dX10_readOperation_94 : decode cX10_readOperation 94 = .ok (.aload_n 1, 1) := by decide +kernel
theorem dX10_readOperation_95 : decode cX10_readOperation 95 = .ok (.invokevirtual 74, 3) := by decide +kernel
theorem dX10_readOperation_98 : decode cX10_readOperation 98 = .ok (.istore_n 3, 1) := by decide +kernel
theorem dX10_readOperation_99 : decode cX10_readOperation 99 = .ok (.aload_n 1, 1) := by decide +kernel
theorem dX10_readOperation_100 : decode cX10_readOperation 100 = .ok (.iload_n 2, 1) := by decide +kernel
theorem dX10_readOperation_101 : decode cX10_readOperation 101 = .ok (.invokevirtual 78, 3) := by decide +kernel
theorem dX10_readOperation_104 : decode cX10_readOperation 104 = .ok (.iconst 1, 1) := by decide +kernel
theorem dX10_readOperation_105 : decode cX10_readOperation 105 = .ok (.istore 4, 2) := by decide +kernel
theorem dX10_readOperation_107 : decode cX10_readOperation 107 = .ok (.iload_n 3, 1) := by decide +kernel
theorem dX10_readOperation_108 : decode cX10_readOperation 108 = .ok (.istore 5, 2) := by decide +kernel
theorem dX10_readOperation_110 : decode cX10_readOperation 110 = .ok (.iload 5, 2) := by decide +kernel
theorem dX10_readOperation_112 : decode cX10_readOperation 112 = .ok (.aload_n 1, 1) := by decide +kernel
theorem dX10_readOperation_113 : decode cX10_readOperation 113 = .ok (.invokevirtual 74, 3) := by decide +kernel
theorem dX10_readOperation_116 : decode cX10_readOperation 116 = .ok (.if_icmp .ge 23, 3) := by decide +kernel
theorem dX10_readOperation_119 : decode cX10_readOperation 119 = .ok (.iload 4, 2) := by decide +kernel
theorem dX10_readOperation_121 : decode cX10_readOperation 121 = .ok (.ifCond .eq 18, 3) := by decide +kernel
theorem dX10_readOperation_124 : decode cX10_readOperation 124 = .ok (.aload_n 0, 1) := by decide +kernel
theorem dX10_readOperation_125 : decode cX10_readOperation 125 = .ok (.aload_n 1, 1) := by decide +kernel
theorem dX10_readOperation_126 : decode cX10_readOperation 126 = .ok (.iload 5, 2) := by decide +kernel
theorem dX10_readOperation_128 : decode cX10_readOperation 128 = .ok (.invokevirtual 81, 3) := by decide +kernel
theorem dX10_readOperation_131 : decode cX10_readOperation 131 = .ok (.istore 4, 2) := by decide +kernel
theorem dX10_readOperation_133 : decode cX10_readOperation 133 = .ok (.iinc 5 1, 3) := by decide +kernel
theorem dX10_readOperation_136 : decode cX10_readOperation 136 = .ok (.goto (-26), 3) := by decide +kernel
theorem dX10_readOperation_139 : decode cX10_readOperation 139 = .ok (.iload 4, 2) := by decide +kernel
theorem dX10_readOperation_141 : decode cX10_readOperation 141 = .ok (.ireturn, 1) := by decide +kernel
def LX10_readOperation_110 (F : Nat) (u0 : Nat) (u1 : Nat) (k139 : Int → HF → RO) : Nat → Int → Int → HF → RO
  | 0, _, _, _ => none
  | n + 1, v4, v5, h =>
    zbd (fX0_cellCount F u1 h) fun r15 h =>
    if v5 < r15 then (
      if v4 = 0 then (
        k139 v4 h
      ) else (
        zbd (fX10_readCell F u0 u1 v5 h) fun r16 h =>
        zlet (wr (v5 + 1)) fun x17 =>
        LX10_readOperation_110 F u0 u1 k139 n r16 x17 h
      )
    ) else (
      k139 v4 h
    )
set_option maxHeartbeats 4000000 in
set_option maxRecDepth 100000 in
theorem wX10_readOperation_110 {p : Program} {l : Launch} {e : Env} {s : State} {m : MethodId} {args : Array Value} {below : List Frame} {meth : Method} {c : Code} {Q : State → Prop} {g : zG} {B : Nat} {o : Int × HF} (F : Nat) (cx : Cx p s m args meth c cX10_readOperation 6 RX10 (some .boolean) g B) (u0 : Nat) (ru0 : kt u0 = 13) (u1 : Nat) (ru1 : kt u1 = 3) (k139 : Int → HF → RO) (hk139 : ∀ (x4 : Int) (h : HF) (H : Heap) (locs : List Loc) (ls : Array Slot), rng x4 → Hp g B s h H locs → lv_has ls 6 [(4, .int (ii x4))] → k139 x4 h = some o → W p l e (rmn 3) s m args below meth c H locs 0 0 Q (F0 m 139 ls [])) : ∀ (n : Nat) (v4 : Int) (v5 : Int) (h : HF) (H : Heap) (locs : List Loc) (ls : Array Slot), rng v4 → rng v5 → Hp g B s h H locs → lv_has ls 6 [(0, .ref (B + u0)), (1, .ref (B + u1)), (4, .int (ii v4)), (5, .int (ii v5))] → LX10_readOperation_110 F u0 u1 k139 n v4 v5 h = some o → W p l e (rmn 3) s m args below meth c H locs 0 0 Q (F0 m 110 ls []) := by
  intro n
  induction n with
  | zero =>
    intro v4 v5 h H locs ls rv4 rv5 hp hl hf
    cases hf
  | succ n ih =>
    intro v4 v5 h H locs ls rv4 rv5 hp hl hf
    rw [LX10_readOperation_110] at hf
    refine lv_iload cx.1 cx.2.1 dX10_readOperation_110 (lv_at hl 3 rfl) ?_
    refine lv_aload_n cx.1 cx.2.1 dX10_readOperation_112 rfl (lv_at hl 1 rfl) ?_
    refine z_ci cx hp (fun o' hx => zrunV (n := 3) (As := []) (rest := [.int (ii v5)]) cx hp (mX0_cellCount F l g B h u1 ru1 o' hx) 0 ru1 (by decide) rfl vw_X0_cellCount ml_X10_74 (by decide) rfl hl.1 rfl (Nat.le_of_ble_eq_true rfl) dX10_readOperation_113) hf (fun r15 h H locs rr15 hp hf => ?_)
    refine z_icmp_ge cx rv5 rr15 (tgt := 139) dX10_readOperation_116 (by decide) hf (fun _ hf => ?_) (fun _ hf => ?_)
    · refine lv_iload cx.1 cx.2.1 dX10_readOperation_119 (lv_at hl 2 rfl) ?_
      refine z_if_eq cx rv4 (tgt := 139) dX10_readOperation_121 (by decide) hf (fun _ hf => ?_) (fun _ hf => ?_)
      · exact hk139 v4 h _ _ ls rv4 hp (lv_sub hl [2] rfl) hf
      · refine lv_aload_n cx.1 cx.2.1 dX10_readOperation_124 rfl (lv_at hl 0 rfl) ?_
        refine lv_aload_n cx.1 cx.2.1 dX10_readOperation_125 rfl (lv_at hl 1 rfl) ?_
        refine lv_iload cx.1 cx.2.1 dX10_readOperation_126 (lv_at hl 3 rfl) ?_
        refine z_ci cx hp (fun o' hx => zrunV (n := 3) (As := [.ref (B + u1), .int (ii v5)]) (rest := []) cx hp (mX10_readCell F l g B h u0 u1 v5 ru0 ru1 rv5 o' hx) 10 ru0 (by decide) rfl vw_X10_readCell ml_X10_81 (by decide) rfl hl.1 rfl (Nat.le_of_ble_eq_true rfl) dX10_readOperation_128) hf (fun r16 h H locs rr16 hp hf => ?_)
        refine lv_istore (lv' := [(4, .int (ii r16)), (0, .ref (B + u0)), (1, .ref (B + u1)), (5, .int (ii v5))]) cx.1 cx.2.1 dX10_readOperation_131 hl (by decide) rfl (fun ls hl => ?_)
        refine z_iinc cx (fun x17 => [(5, .int (ii x17)), (4, .int (ii r16)), (0, .ref (B + u0)), (1, .ref (B + u1))]) dX10_readOperation_133 hl (k := 3) rfl (by decide) (fun _ => rfl) hf (fun x17 rx17 hf ls hl => ?_)
        refine lv_goto (tgt := 110) cx.1 cx.2.1 dX10_readOperation_136 (by decide) ?_
        exact ih r16 x17 h _ _ ls rr16 rx17 hp (lv_sub hl [2, 3, 1, 0] rfl) hf
    · exact hk139 v4 h _ _ ls rv4 hp (lv_sub hl [2] rfl) hf
def fX10_readOperation (F : Nat) (a0 : Nat) (a1 : Nat) (h : HF) : RO :=
  zgd h a0 2 fun x1 =>
  zgf h a0 3 fun x2 =>
  zbd (fX1_byteAt F x1 x2 h) fun r3 h =>
  if r3 = 59 then (
    zgf h a1 1 fun x4 =>
    if x4 < 4 then (
      zgf h a0 3 fun x5 =>
      zpf h a0 3 (wr (x5 + 1)) fun h =>
      zgd h a0 2 fun x6 =>
      zgf h a0 3 fun x7 =>
      zbd (fX1_byteAt F x6 x7 h) fun r8 h =>
      zbd (fX10_arityOf F r8 h) fun r9 h =>
      if r9 = (-1) then (
        zgf h a0 3 fun x10 =>
        zbd (fX10_failAt F a0 x10 1 h) fun r11 h =>
        zrz r11 h
      ) else (
        zgf h a0 3 fun x12 =>
        zpf h a0 3 (wr (x12 + 1)) fun h =>
        zbd (fX0_cellCount F a1 h) fun r13 h =>
        zbd (fX0_addOperation F a1 r9 h) fun _ h =>
        zjn (fun (x139_4 : Int) (h : HF) => (
          zrz x139_4 h
        )) fun j139 =>
        LX10_readOperation_110 F a0 a1 j139 F 1 r13 h
      )
    ) else (
      zgf h a0 3 fun x18 =>
      zbd (fX10_failAt F a0 x18 3 h) fun r19 h =>
      zrz r19 h
    )
  ) else (
    zgf h a0 3 fun x20 =>
    zbd (fX10_failAt F a0 x20 1 h) fun r21 h =>
    zrz r21 h
  )
set_option maxHeartbeats 4000000 in
set_option maxRecDepth 100000 in
theorem mX10_readOperation (F : Nat) (l : Launch) (g : zG) (B : Nat) (h : HF) (a0 : Nat) (a1 : Nat) (ra0 : kt a0 = 13) (ra1 : kt a1 = 3) : CTi l g B yX10_readOperation cX10_readOperation 6 (some .boolean) 3 [.ref (B + a0), .ref (B + a1)] h (fX10_readOperation F a0 a1 h) := by
  refine z_enterI (by decide) rfl (Nat.le_of_ble_eq_true rfl) ?_
  intro p e s m args below meth c ls o Q cx hp hl hf hQ
  have hl : lv_has ls 6 [(0, .ref (B + a0)), (1, .ref (B + a1))] := hl
  unfold fX10_readOperation at hf
  refine lv_aload_n cx.1 cx.2.1 dX10_readOperation_0 rfl (lv_at hl 0 rfl) ?_
  refine z_getd cx hp (T := TX10) 10 2 4 rfl zin_10 (by decide) (by decide) ra0 rfl fl_X10_24 dX10_readOperation_1 hf (fun x1 rx1 hf => ?_)
  refine lv_aload_n cx.1 cx.2.1 dX10_readOperation_4 rfl (lv_at hl 0 rfl) ?_
  refine z_geti cx hp (T := TX10) 10 3 rfl zin_10 (by decide) (by decide) ra0 rfl fl_X10_28 dX10_readOperation_5 hf (fun x2 rx2 hf => ?_)
  refine z_ci cx hp (fun o' hx => zrunV (n := 3) (As := [.int (ii x2)]) (rest := []) cx hp (mX1_byteAt F l g B h x1 x2 rx1 rx2 o' hx) 1 rx1 (by decide) rfl vw_X1_byteAt ml_X10_51 (by decide) rfl hl.1 rfl (Nat.le_of_ble_eq_true rfl) dX10_readOperation_8) hf (fun r3 h H locs rr3 hp hf => ?_)
  refine z_bipush cx (by decide) dX10_readOperation_11 ?_
  refine z_icmp_eq cx rr3 (by decide) (tgt := 26) dX10_readOperation_13 (by decide) hf (fun _ hf => ?_) (fun _ hf => ?_)
  · refine lv_aload_n cx.1 cx.2.1 dX10_readOperation_26 rfl (lv_at hl 1 rfl) ?_
    refine z_geti cx hp (T := TX0) 0 1 rfl zin_0 (by decide) (by decide) ra1 rfl fl_X10_68 dX10_readOperation_27 hf (fun x4 rx4 hf => ?_)
    refine z_iconst cx dX10_readOperation_30 ?_
    refine z_icmp_lt cx rx4 (by decide) (tgt := 44) dX10_readOperation_31 (by decide) hf (fun _ hf => ?_) (fun _ hf => ?_)
    · refine lv_aload_n cx.1 cx.2.1 dX10_readOperation_44 rfl (lv_at hl 0 rfl) ?_
      refine lv_dup cx.1 cx.2.1 dX10_readOperation_45 rfl ?_
      refine z_geti cx hp (T := TX10) 10 3 rfl zin_10 (by decide) (by decide) ra0 rfl fl_X10_28 dX10_readOperation_46 hf (fun x5 rx5 hf => ?_)
      refine z_iconst cx dX10_readOperation_49 ?_
      refine z_iadd cx dX10_readOperation_50 ?_
      refine z_puti cx hp (T := TX10) tyX10 tyX10_ok nmX10 10 3 (rng_wr _) rfl zin_10 (by decide) (by decide) ra0 rfl rfl rfl fl_X10_28 dX10_readOperation_51 hf (fun h H locs hp hf => ?_)
      refine lv_aload_n cx.1 cx.2.1 dX10_readOperation_54 rfl (lv_at hl 0 rfl) ?_
      refine z_getd cx hp (T := TX10) 10 2 4 rfl zin_10 (by decide) (by decide) ra0 rfl fl_X10_24 dX10_readOperation_55 hf (fun x6 rx6 hf => ?_)
      refine lv_aload_n cx.1 cx.2.1 dX10_readOperation_58 rfl (lv_at hl 0 rfl) ?_
      refine z_geti cx hp (T := TX10) 10 3 rfl zin_10 (by decide) (by decide) ra0 rfl fl_X10_28 dX10_readOperation_59 hf (fun x7 rx7 hf => ?_)
      refine z_ci cx hp (fun o' hx => zrunV (n := 3) (As := [.int (ii x7)]) (rest := []) cx hp (mX1_byteAt F l g B h x6 x7 rx6 rx7 o' hx) 1 rx6 (by decide) rfl vw_X1_byteAt ml_X10_51 (by decide) rfl hl.1 rfl (Nat.le_of_ble_eq_true rfl) dX10_readOperation_62) hf (fun r8 h H locs rr8 hp hf => ?_)
      refine z_ci cx hp (fun o' hx => zrunS (n := 3) (As := [.int (ii r8)]) (rest := []) cx hp (mX10_arityOf F l g B h r8 rr8 o' hx) sw_X10_arityOf ml_X10_71 (by decide) rfl hl.1 rfl (Nat.le_of_ble_eq_true rfl) dX10_readOperation_65) hf (fun r9 h H locs rr9 hp hf => ?_)
      refine lv_istore_n (lv' := [(2, .int (ii r9)), (0, .ref (B + a0)), (1, .ref (B + a1))]) cx.1 cx.2.1 dX10_readOperation_68 rfl hl (by decide) rfl (fun ls hl => ?_)
      refine lv_iload_n cx.1 cx.2.1 dX10_readOperation_69 rfl (lv_at hl 0 rfl) ?_
      refine z_iconst cx dX10_readOperation_70 ?_
      refine z_icmp_ne cx rr9 (by decide) (tgt := 84) dX10_readOperation_71 (by decide) hf (fun _ hf => ?_) (fun _ hf => ?_)
      · refine lv_aload_n cx.1 cx.2.1 dX10_readOperation_74 rfl (lv_at hl 1 rfl) ?_
        refine lv_aload_n cx.1 cx.2.1 dX10_readOperation_75 rfl (lv_at hl 1 rfl) ?_
        refine z_geti cx hp (T := TX10) 10 3 rfl zin_10 (by decide) (by decide) ra0 rfl fl_X10_28 dX10_readOperation_76 hf (fun x10 rx10 hf => ?_)
        refine z_iconst cx dX10_readOperation_79 ?_
        refine z_ci cx hp (fun o' hx => zrunV (n := 3) (As := [.int (ii x10), .int (ii 1)]) (rest := []) cx hp (mX10_failAt F l g B h a0 x10 1 ra0 rx10 (by decide) o' hx) 10 ra0 (by decide) rfl vw_X10_failAt ml_X10_55 (by decide) rfl hl.1 rfl (Nat.le_of_ble_eq_true rfl) dX10_readOperation_80) hf (fun r11 h H locs rr11 hp hf => ?_)
        rw [hQ]; exact z_zret cx hp dX10_readOperation_83 hf
      · refine lv_aload_n cx.1 cx.2.1 dX10_readOperation_84 rfl (lv_at hl 1 rfl) ?_
        refine lv_dup cx.1 cx.2.1 dX10_readOperation_85 rfl ?_
        refine z_geti cx hp (T := TX10) 10 3 rfl zin_10 (by decide) (by decide) ra0 rfl fl_X10_28 dX10_readOperation_86 hf (fun x12 rx12 hf => ?_)
        refine z_iconst cx dX10_readOperation_89 ?_
        refine z_iadd cx dX10_readOperation_90 ?_
        refine z_puti cx hp (T := TX10) tyX10 tyX10_ok nmX10 10 3 (rng_wr _) rfl zin_10 (by decide) (by decide) ra0 rfl rfl rfl fl_X10_28 dX10_readOperation_91 hf (fun h H locs hp hf => ?_)
        refine lv_aload_n cx.1 cx.2.1 dX10_readOperation_94 rfl (lv_at hl 2 rfl) ?_
        refine z_ci cx hp (fun o' hx => zrunV (n := 3) (As := []) (rest := []) cx hp (mX0_cellCount F l g B h a1 ra1 o' hx) 0 ra1 (by decide) rfl vw_X0_cellCount ml_X10_74 (by decide) rfl hl.1 rfl (Nat.le_of_ble_eq_true rfl) dX10_readOperation_95) hf (fun r13 h H locs rr13 hp hf => ?_)
        refine lv_istore_n (lv' := [(3, .int (ii r13)), (2, .int (ii r9)), (0, .ref (B + a0)), (1, .ref (B + a1))]) cx.1 cx.2.1 dX10_readOperation_98 rfl hl (by decide) rfl (fun ls hl => ?_)
        refine lv_aload_n cx.1 cx.2.1 dX10_readOperation_99 rfl (lv_at hl 3 rfl) ?_
        refine lv_iload_n cx.1 cx.2.1 dX10_readOperation_100 rfl (lv_at hl 1 rfl) ?_
        refine z_cv cx hp (fun o' hx => zrunV (n := 3) (As := [.int (ii r9)]) (rest := []) cx hp (mX0_addOperation F l g B h a1 r9 ra1 rr9 o' hx) 0 ra1 (by decide) rfl vw_X0_addOperation ml_X10_78 (by decide) rfl hl.1 rfl (Nat.le_of_ble_eq_true rfl) dX10_readOperation_101) hf (fun _ h H locs hp hf => ?_)
        refine z_iconst cx dX10_readOperation_104 ?_
        refine lv_istore (lv' := [(4, .int (ii 1)), (3, .int (ii r13)), (2, .int (ii r9)), (0, .ref (B + a0)), (1, .ref (B + a1))]) cx.1 cx.2.1 dX10_readOperation_105 hl (by decide) rfl (fun ls hl => ?_)
        refine lv_iload_n cx.1 cx.2.1 dX10_readOperation_107 rfl (lv_at hl 1 rfl) ?_
        refine lv_istore (lv' := [(5, .int (ii r13)), (4, .int (ii 1)), (3, .int (ii r13)), (2, .int (ii r9)), (0, .ref (B + a0)), (1, .ref (B + a1))]) cx.1 cx.2.1 dX10_readOperation_108 hl (by decide) rfl (fun ls hl => ?_)
        refine z_jn hf (fun j => ∀ (x139_4 : Int) (h : HF) (H : Heap) (locs : List Loc) (ls : Array Slot), rng x139_4 → Hp g B s h H locs → lv_has ls 6 [(4, .int (ii x139_4))] → j x139_4 h = some o → W p l e (rmn 3) s m args below meth c H locs 0 0 Q (F0 m 139 ls [])) ?_ (fun j139 hj139 hf => ?_)
        · intro x139_4 h H locs ls rx139_4 hp hl hf
          refine lv_iload cx.1 cx.2.1 dX10_readOperation_139 (lv_at hl 0 rfl) ?_
          rw [hQ]; exact z_zret cx hp dX10_readOperation_141 hf
        exact wX10_readOperation_110 F cx a0 ra0 a1 ra1 j139 hj139 F 1 r13 h _ _ ls (by decide) rr13 hp (lv_sub hl [4, 5, 1, 0] rfl) hf
    · refine lv_aload_n cx.1 cx.2.1 dX10_readOperation_34 rfl (lv_at hl 0 rfl) ?_
      refine lv_aload_n cx.1 cx.2.1 dX10_readOperation_35 rfl (lv_at hl 0 rfl) ?_
      refine z_geti cx hp (T := TX10) 10 3 rfl zin_10 (by decide) (by decide) ra0 rfl fl_X10_28 dX10_readOperation_36 hf (fun x18 rx18 hf => ?_)
      refine z_iconst cx dX10_readOperation_39 ?_
      refine z_ci cx hp (fun o' hx => zrunV (n := 3) (As := [.int (ii x18), .int (ii 3)]) (rest := []) cx hp (mX10_failAt F l g B h a0 x18 3 ra0 rx18 (by decide) o' hx) 10 ra0 (by decide) rfl vw_X10_failAt ml_X10_55 (by decide) rfl hl.1 rfl (Nat.le_of_ble_eq_true rfl) dX10_readOperation_40) hf (fun r19 h H locs rr19 hp hf => ?_)
      rw [hQ]; exact z_zret cx hp dX10_readOperation_43 hf
  · refine lv_aload_n cx.1 cx.2.1 dX10_readOperation_16 rfl (lv_at hl 0 rfl) ?_
    refine lv_aload_n cx.1 cx.2.1 dX10_readOperation_17 rfl (lv_at hl 0 rfl) ?_
    refine z_geti cx hp (T := TX10) 10 3 rfl zin_10 (by decide) (by decide) ra0 rfl fl_X10_28 dX10_readOperation_18 hf (fun x20 rx20 hf => ?_)
    refine z_iconst cx dX10_readOperation_21 ?_
    refine z_ci cx hp (fun o' hx => zrunV (n := 3) (As := [.int (ii x20), .int (ii 1)]) (rest := []) cx hp (mX10_failAt F l g B h a0 x20 1 ra0 rx20 (by decide) o' hx) 10 ra0 (by decide) rfl vw_X10_failAt ml_X10_55 (by decide) rfl hl.1 rfl (Nat.le_of_ble_eq_true rfl) dX10_readOperation_22) hf (fun r21 h H locs rr21 hp hf => ?_)
    rw [hQ]; exact z_zret cx hp dX10_readOperation_25 hf
theorem dX10_readTerm_0 : decode cX10_readTerm 0 = .ok (.aload_n 0, 1) := by decide +kernel
theorem dX10_readTerm_1 : decode cX10_readTerm 1 = .ok (.getfield 9, 3) := by decide +kernel
theorem dX10_readTerm_4 : decode cX10_readTerm 4 = .ok (.aload_n 0, 1) := by decide +kernel
theorem dX10_readTerm_5 : decode cX10_readTerm 5 = .ok (.getfield 28, 3) := by decide +kernel
theorem dX10_readTerm_8 : decode cX10_readTerm 8 = .ok (.iaload, 1) := by decide +kernel
theorem dX10_readTerm_9 : decode cX10_readTerm 9 = .ok (.invokestatic 132, 3) := by decide +kernel
theorem dX10_readTerm_12 : decode cX10_readTerm 12 = .ok (.istore_n 2, 1) := by decide +kernel
theorem dX10_readTerm_13 : decode cX10_readTerm 13 = .ok (.iload_n 2, 1) := by decide +kernel
theorem dX10_readTerm_14 : decode cX10_readTerm 14 = .ok (.iconst (-1), 1) := by decide +kernel
theorem dX10_readTerm_15 : decode cX10_readTerm 15 = .ok (.if_icmp .ne 9, 3) := by decide +kernel
theorem dX10_readTerm_18 : decode cX10_readTerm 18 = .ok (.aload_n 0, 1) := by decide +kernel
theorem dX10_readTerm_19 : decode cX10_readTerm 19 = .ok (.iconst 1, 1) := by decide +kernel
theorem dX10_readTerm_20 : decode cX10_readTerm 20 = .ok (.invokevirtual 111, 3) := by decide +kernel
theorem dX10_readTerm_23 : decode cX10_readTerm 23 = .ok (.ireturn, 1) := by decide +kernel
theorem dX10_readTerm_24 : decode cX10_readTerm 24 = .ok (.iload_n 1, 1) := by decide +kernel
theorem dX10_readTerm_25 : decode cX10_readTerm 25 = .ok (.bipush 8, 2) := by decide +kernel
theorem dX10_readTerm_27 : decode cX10_readTerm 27 = .ok (.if_icmp .lt 9, 3) := by decide +kernel
theorem dX10_readTerm_30 : decode cX10_readTerm 30 = .ok (.aload_n 0, 1) := by decide +kernel
theorem dX10_readTerm_31 : decode cX10_readTerm 31 = .ok (.iconst 3, 1) := by decide +kernel
theorem dX10_readTerm_32 : decode cX10_readTerm 32 = .ok (.invokevirtual 111, 3) := by decide +kernel
theorem dX10_readTerm_35 : decode cX10_readTerm 35 = .ok (.ireturn, 1) := by decide +kernel
theorem dX10_readTerm_36 : decode cX10_readTerm 36 = .ok (.aload_n 0, 1) := by decide +kernel
theorem dX10_readTerm_37 : decode cX10_readTerm 37 = .ok (.getfield 94, 3) := by decide +kernel
theorem dX10_readTerm_40 : decode cX10_readTerm 40 = .ok (.getfield 135, 3) := by decide +kernel
theorem dX10_readTerm_43 : decode cX10_readTerm 43 = .ok (.bipush 6, 2) := by decide +kernel
theorem dX10_readTerm_45 : decode cX10_readTerm 45 = .ok (.if_icmp .ge 15, 3) := by decide +kernel
theorem dX10_readTerm_48 : decode cX10_readTerm 48 = .ok (.aload_n 0, 1) := by decide +kernel
theorem dX10_readTerm_49 : decode cX10_readTerm 49 = .ok (.getfield 94, 3) := by decide +kernel
theorem dX10_readTerm_52 : decode cX10_readTerm 52 = .ok (.getfield 126, 3) := by decide +kernel
theorem dX10_readTerm_55 : decode cX10_readTerm 55 = .ok (.bipush 80, 2) := by decide +kernel
theorem dX10_readTerm_57 : decode cX10_readTerm 57 = .ok (.if_icmp .lt 9, 3) := by decide +kernel
theorem dX10_readTerm_66 : decode cX10_readTerm 66 = .ok (.aload_n 0, 1) := by decide +kernel
theorem dX10_readTerm_67 : decode cX10_readTerm 67 = .ok (.getfield 94, 3) := by decide +kernel
theorem dX10_readTerm_70 : decode cX10_readTerm 70 = .ok (.iload_n 2, 1) := by decide +kernel
theorem dX10_readTerm_71 : decode cX10_readTerm 71 = .ok (.invokevirtual 138, 3) := by decide +kernel
theorem dX10_readTerm_74 : decode cX10_readTerm 74 = .ok (.istore_n 3, 1) := by decide +kernel
theorem dX10_readTerm_75 : decode cX10_readTerm 75 = .ok (.aload_n 0, 1) := by decide +kernel
theorem dX10_readTerm_76 : decode cX10_readTerm 76 = .ok (.getfield 18, 3) := by decide +kernel
theorem dX10_readTerm_79 : decode cX10_readTerm 79 = .ok (.iload_n 3, 1) := by decide +kernel
theorem dX10_readTerm_80 : decode cX10_readTerm 80 = .ok (.aload_n 0, 1) := by decide +kernel
theorem dX10_readTerm_81 : decode cX10_readTerm 81 = .ok (.getfield 15, 3) := by decide +kernel
theorem dX10_readTerm_84 : decode cX10_readTerm 84 = .ok (.aload_n 0, 1) := by decide +kernel
theorem dX10_readTerm_85 : decode cX10_readTerm 85 = .ok (.getfield 28, 3) := by decide +kernel
theorem dX10_readTerm_88 : decode cX10_readTerm 88 = .ok (.iaload, 1) := by decide +kernel
theorem dX10_readTerm_89 : decode cX10_readTerm 89 = .ok (.iastore, 1) := by decide +kernel
theorem dX10_readTerm_90 : decode cX10_readTerm 90 = .ok (.aload_n 0, 1) := by decide +kernel
theorem dX10_readTerm_91 : decode cX10_readTerm 91 = .ok (.dup, 1) := by decide +kernel
theorem dX10_readTerm_92 : decode cX10_readTerm 92 = .ok (.getfield 28, 3) := by decide +kernel
theorem dX10_readTerm_95 : decode cX10_readTerm 95 = .ok (.iconst 1, 1) := by decide +kernel
theorem dX10_readTerm_96 : decode cX10_readTerm 96 = .ok (.iadd, 1) := by decide +kernel
theorem dX10_readTerm_97 : decode cX10_readTerm 97 = .ok (.putfield 28, 3) := by decide +kernel
theorem dX10_readTerm_100 : decode cX10_readTerm 100 = .ok (.iload_n 2, 1) := by decide +kernel
theorem dX10_readTerm_101 : decode cX10_readTerm 101 = .ok (.iconst 3, 1) := by decide +kernel
theorem dX10_readTerm_102 : decode cX10_readTerm 102 = .ok (.if_icmp .lt 23, 3) := by decide +kernel
theorem dX10_readTerm_105 : decode cX10_readTerm 105 = .ok (.aload_n 0, 1) := by decide +kernel
theorem dX10_readTerm_106 : decode cX10_readTerm 106 = .ok (.bipush 40, 2) := by decide +kernel
theorem dX10_readTerm_108 : decode cX10_readTerm 108 = .ok (.invokevirtual 107, 3) := by decide +kernel
theorem dX10_readTerm_111 : decode cX10_readTerm 111 = .ok (.ifCond .eq 14, 3) := by decide +kernel
theorem dX10_readTerm_114 : decode cX10_readTerm 114 = .ok (.aload_n 0, 1) := by decide +kernel
theorem dX10_readTerm_115 : decode cX10_readTerm 115 = .ok (.iload_n 3, 1) := by decide +kernel
theorem dX10_readTerm_116 : decode cX10_readTerm 116 = .ok (.iload_n 1, 1) := by decide +kernel
theorem dX10_readTerm_117 : decode cX10_readTerm 117 = .ok (.iconst 1, 1) := by decide +kernel
theorem dX10_readTerm_118 : decode cX10_readTerm 118 = .ok (.iadd, 1) := by decide +kernel
theorem dX10_readTerm_119 : decode cX10_readTerm 119 = .ok (.invokevirtual 141, 3) := by decide +kernel
theorem dX10_readTerm_122 : decode cX10_readTerm 122 = .ok (.ifCond .eq 7, 3) := by decide +kernel
theorem dX10_readTerm_129 : decode cX10_readTerm 129 = .ok (.iconst 0, 1) := by decide +kernel
theorem dX10_readTerm_125 : decode cX10_readTerm 125 = .ok (.iconst 1, 1) := by decide +kernel
theorem dX10_readTerm_126 : decode cX10_readTerm 126 = .ok (.goto 4, 3) := by decide +kernel
theorem dX10_readTerm_130 : decode cX10_readTerm 130 = .ok (.ireturn, 1) := by decide +kernel
theorem dX10_readTerm_60 : decode cX10_readTerm 60 = .ok (.aload_n 0, 1) := by decide +kernel
theorem dX10_readTerm_61 : decode cX10_readTerm 61 = .ok (.iconst 4, 1) := by decide +kernel
theorem dX10_readTerm_62 : decode cX10_readTerm 62 = .ok (.invokevirtual 111, 3) := by decide +kernel
theorem dX10_readTerm_65 : decode cX10_readTerm 65 = .ok (.ireturn, 1) := by decide +kernel
def fX10_readTerm (F : Nat) : Nat → Nat → Int → HF → RO
  | 0, _, _, _ => none
  | D + 1, a0, a1, h =>
    zgf h a0 3 fun x1 =>
    zrd h (a0 + 1) x1 fun x2 =>
    zbd (fX10_termSign F x2 h) fun r3 h =>
    if r3 = (-1) then (
      zbd (fX10_failHere F a0 1 h) fun r4 h =>
      zrz r4 h
    ) else (
      if a1 < 8 then (
        zgd h a0 4 fun x5 =>
        zgf h x5 0 fun x6 =>
        zjn (fun  (h : HF) => (
          zbd (fX10_failHere F a0 4 h) fun r7 h =>
          zrz r7 h
        )) fun j60 =>
        if x6 < 6 then (
          zgd h a0 4 fun x8 =>
          zgf h x8 2 fun x9 =>
          if x9 < 80 then (
            zgd h a0 4 fun x10 =>
            zbd (fX4_addTerm F x10 r3 h) fun r11 h =>
            zgf h a0 3 fun x12 =>
            zrd h (a0 + 2) x12 fun x13 =>
            zwr h (a0 + 3) r11 x13 fun h =>
            zgf h a0 3 fun x14 =>
            zpf h a0 3 (wr (x14 + 1)) fun h =>
            zjn (fun (y130_0 : Int) (h : HF) => (
              zrz y130_0 h
            )) fun j130 =>
            zjn (fun  (h : HF) => (
              j130 1 h
            )) fun j125 =>
            if r3 < 3 then (
              j125  h
            ) else (
              zbd (fX10_takes F a0 40 h) fun r15 h =>
              if r15 = 0 then (
                j125  h
              ) else (
                zbd (fX10_readArguments F (fX10_readTerm F D) a0 r11 (wr (a1 + 1)) h) fun r16 h =>
                if r16 = 0 then (
                  j130 0 h
                ) else (
                  j125  h
                )
              )
            )
          ) else (
            j60  h
          )
        ) else (
          j60  h
        )
      ) else (
        zbd (fX10_failHere F a0 3 h) fun r17 h =>
        zrz r17 h
      )
    )
set_option maxHeartbeats 4000000 in
set_option maxRecDepth 100000 in
theorem mX10_readTerm (F : Nat) (l : Launch) (g : zG) (B : Nat) : ∀ (D : Nat) (h : HF) (a0 : Nat) (a1 : Int) (ra0 : kt a0 = 13) (ra1 : rng a1), CTi l g B yX10_readTerm cX10_readTerm 4 (some .boolean) (2 + 3 * D) [.ref (B + a0), .int (ii a1)] h (fX10_readTerm F D a0 a1 h) := by
  intro D
  induction D with
  | zero =>
    intro h a0 a1 ra0 ra1 o hx
    cases hx
  | succ D ihD =>
    intro h a0 a1 ra0 ra1
    refine z_enterI (by decide) rfl (Nat.le_of_ble_eq_true rfl) ?_
    intro p e s m args below meth c ls o Q cx hp hl hf hQ
    have hl : lv_has ls 4 [(0, .ref (B + a0)), (1, .int (ii a1))] := hl
    rw [fX10_readTerm] at hf
    refine lv_aload_n cx.1 cx.2.1 dX10_readTerm_0 rfl (lv_at hl 0 rfl) ?_
    refine z_gets cx hp (T := TX10) 10 5 (a0 + 1) rfl zin_10 (by decide) (by decide) ra0 rfl fl_X10_9 dX10_readTerm_1 ?_
    refine lv_aload_n cx.1 cx.2.1 dX10_readTerm_4 rfl (lv_at hl 0 rfl) ?_
    refine z_geti cx hp (T := TX10) 10 3 rfl zin_10 (by decide) (by decide) ra0 rfl fl_X10_28 dX10_readTerm_5 hf (fun x1 rx1 hf => ?_)
    refine z_iald cx hp (zs_10_5 a0 (kt_lt ra0 (by decide)) ra0) rx1 dX10_readTerm_8 hf (fun x2 rx2 hf => ?_)
    refine z_ci cx hp (fun o' hx => zrunS (n := (2 + 3 * (D + 1))) (As := [.int (ii x2)]) (rest := []) cx hp (mX10_termSign F l g B h x2 rx2 o' hx) sw_X10_termSign ml_X10_132 (by omega) rfl hl.1 rfl (Nat.le_of_ble_eq_true rfl) dX10_readTerm_9) hf (fun r3 h H locs rr3 hp hf => ?_)
    refine lv_istore_n (lv' := [(2, .int (ii r3)), (0, .ref (B + a0)), (1, .int (ii a1))]) cx.1 cx.2.1 dX10_readTerm_12 rfl hl (by decide) rfl (fun ls hl => ?_)
    refine lv_iload_n cx.1 cx.2.1 dX10_readTerm_13 rfl (lv_at hl 0 rfl) ?_
    refine z_iconst cx dX10_readTerm_14 ?_
    refine z_icmp_ne cx rr3 (by decide) (tgt := 24) dX10_readTerm_15 (by decide) hf (fun _ hf => ?_) (fun _ hf => ?_)
    · refine lv_aload_n cx.1 cx.2.1 dX10_readTerm_18 rfl (lv_at hl 1 rfl) ?_
      refine z_iconst cx dX10_readTerm_19 ?_
      refine z_ci cx hp (fun o' hx => zrunV (n := (2 + 3 * (D + 1))) (As := [.int (ii 1)]) (rest := []) cx hp (mX10_failHere F l g B h a0 1 ra0 (by decide) o' hx) 10 ra0 (by decide) rfl vw_X10_failHere ml_X10_111 (by omega) rfl hl.1 rfl (Nat.le_of_ble_eq_true rfl) dX10_readTerm_20) hf (fun r4 h H locs rr4 hp hf => ?_)
      rw [hQ]; exact z_zret cx hp dX10_readTerm_23 hf
    · refine lv_iload_n cx.1 cx.2.1 dX10_readTerm_24 rfl (lv_at hl 2 rfl) ?_
      refine z_bipush cx (by decide) dX10_readTerm_25 ?_
      refine z_icmp_lt cx ra1 (by decide) (tgt := 36) dX10_readTerm_27 (by decide) hf (fun _ hf => ?_) (fun _ hf => ?_)
      · refine lv_aload_n cx.1 cx.2.1 dX10_readTerm_36 rfl (lv_at hl 1 rfl) ?_
        refine z_getd cx hp (T := TX10) 10 4 7 rfl zin_10 (by decide) (by decide) ra0 rfl fl_X10_94 dX10_readTerm_37 hf (fun x5 rx5 hf => ?_)
        refine z_geti cx hp (T := TX4) 4 0 rfl zin_4 (by decide) (by decide) rx5 rfl fl_X10_135 dX10_readTerm_40 hf (fun x6 rx6 hf => ?_)
        refine z_bipush cx (by decide) dX10_readTerm_43 ?_
        refine z_jn hf (fun j => ∀  (h : HF) (H : Heap) (locs : List Loc) (ls : Array Slot), Hp g B s h H locs → lv_has ls 4 [(0, .ref (B + a0))] → j  h = some o → W p l e (rmn (2 + 3 * (D + 1))) s m args below meth c H locs 0 0 Q (F0 m 60 ls [])) ?_ (fun j60 hj60 hf => ?_)
        · intro  h H locs ls  hp hl hf
          refine lv_aload_n cx.1 cx.2.1 dX10_readTerm_60 rfl (lv_at hl 0 rfl) ?_
          refine z_iconst cx dX10_readTerm_61 ?_
          refine z_ci cx hp (fun o' hx => zrunV (n := (2 + 3 * (D + 1))) (As := [.int (ii 4)]) (rest := []) cx hp (mX10_failHere F l g B h a0 4 ra0 (by decide) o' hx) 10 ra0 (by decide) rfl vw_X10_failHere ml_X10_111 (by omega) rfl hl.1 rfl (Nat.le_of_ble_eq_true rfl) dX10_readTerm_62) hf (fun r7 h H locs rr7 hp hf => ?_)
          rw [hQ]; exact z_zret cx hp dX10_readTerm_65 hf
        refine z_icmp_ge cx rx6 (by decide) (tgt := 60) dX10_readTerm_45 (by decide) hf (fun _ hf => ?_) (fun _ hf => ?_)
        · refine lv_aload_n cx.1 cx.2.1 dX10_readTerm_48 rfl (lv_at hl 1 rfl) ?_
          refine z_getd cx hp (T := TX10) 10 4 7 rfl zin_10 (by decide) (by decide) ra0 rfl fl_X10_94 dX10_readTerm_49 hf (fun x8 rx8 hf => ?_)
          refine z_geti cx hp (T := TX4) 4 2 rfl zin_4 (by decide) (by decide) rx8 rfl fl_X10_126 dX10_readTerm_52 hf (fun x9 rx9 hf => ?_)
          refine z_bipush cx (by decide) dX10_readTerm_55 ?_
          refine z_icmp_lt cx rx9 (by decide) (tgt := 66) dX10_readTerm_57 (by decide) hf (fun _ hf => ?_) (fun _ hf => ?_)
          · refine lv_aload_n cx.1 cx.2.1 dX10_readTerm_66 rfl (lv_at hl 1 rfl) ?_
            refine z_getd cx hp (T := TX10) 10 4 7 rfl zin_10 (by decide) (by decide) ra0 rfl fl_X10_94 dX10_readTerm_67 hf (fun x10 rx10 hf => ?_)
            refine lv_iload_n cx.1 cx.2.1 dX10_readTerm_70 rfl (lv_at hl 0 rfl) ?_
            refine z_ci cx hp (fun o' hx => zrunV (n := (2 + 3 * (D + 1))) (As := [.int (ii r3)]) (rest := []) cx hp (mX4_addTerm F l g B h x10 r3 rx10 rr3 o' hx) 4 rx10 (by decide) rfl vw_X4_addTerm ml_X10_138 (by omega) rfl hl.1 rfl (Nat.le_of_ble_eq_true rfl) dX10_readTerm_71) hf (fun r11 h H locs rr11 hp hf => ?_)
            refine lv_istore_n (lv' := [(3, .int (ii r11)), (2, .int (ii r3)), (0, .ref (B + a0)), (1, .int (ii a1))]) cx.1 cx.2.1 dX10_readTerm_74 rfl hl (by decide) rfl (fun ls hl => ?_)
            refine lv_aload_n cx.1 cx.2.1 dX10_readTerm_75 rfl (lv_at hl 2 rfl) ?_
            refine z_gets cx hp (T := TX10) 10 7 (a0 + 3) rfl zin_10 (by decide) (by decide) ra0 rfl fl_X10_18 dX10_readTerm_76 ?_
            refine lv_iload_n cx.1 cx.2.1 dX10_readTerm_79 rfl (lv_at hl 0 rfl) ?_
            refine lv_aload_n cx.1 cx.2.1 dX10_readTerm_80 rfl (lv_at hl 2 rfl) ?_
            refine z_gets cx hp (T := TX10) 10 6 (a0 + 2) rfl zin_10 (by decide) (by decide) ra0 rfl fl_X10_15 dX10_readTerm_81 ?_
            refine lv_aload_n cx.1 cx.2.1 dX10_readTerm_84 rfl (lv_at hl 2 rfl) ?_
            refine z_geti cx hp (T := TX10) 10 3 rfl zin_10 (by decide) (by decide) ra0 rfl fl_X10_28 dX10_readTerm_85 hf (fun x12 rx12 hf => ?_)
            refine z_iald cx hp (zs_10_6 a0 (kt_lt ra0 (by decide)) ra0) rx12 dX10_readTerm_88 hf (fun x13 rx13 hf => ?_)
            refine z_iast cx hp (zs_10_7 a0 (kt_lt ra0 (by decide)) ra0) rr11 rx13 dX10_readTerm_89 hf (fun h H locs hp hf => ?_)
            refine lv_aload_n cx.1 cx.2.1 dX10_readTerm_90 rfl (lv_at hl 2 rfl) ?_
            refine lv_dup cx.1 cx.2.1 dX10_readTerm_91 rfl ?_
            refine z_geti cx hp (T := TX10) 10 3 rfl zin_10 (by decide) (by decide) ra0 rfl fl_X10_28 dX10_readTerm_92 hf (fun x14 rx14 hf => ?_)
            refine z_iconst cx dX10_readTerm_95 ?_
            refine z_iadd cx dX10_readTerm_96 ?_
            refine z_puti cx hp (T := TX10) tyX10 tyX10_ok nmX10 10 3 (rng_wr _) rfl zin_10 (by decide) (by decide) ra0 rfl rfl rfl fl_X10_28 dX10_readTerm_97 hf (fun h H locs hp hf => ?_)
            refine lv_iload_n cx.1 cx.2.1 dX10_readTerm_100 rfl (lv_at hl 1 rfl) ?_
            refine z_iconst cx dX10_readTerm_101 ?_
            refine z_jn hf (fun j => ∀ (y130_0 : Int) (h : HF) (H : Heap) (locs : List Loc) (ls : Array Slot), rng y130_0 → Hp g B s h H locs → lv_has ls 4 [] → j y130_0 h = some o → W p l e (rmn (2 + 3 * (D + 1))) s m args below meth c H locs 0 0 Q (F0 m 130 ls [.int (ii y130_0)])) ?_ (fun j130 hj130 hf => ?_)
            · intro y130_0 h H locs ls ry130_0 hp hl hf
              rw [hQ]; exact z_zret cx hp dX10_readTerm_130 hf
            refine z_jn hf (fun j => ∀  (h : HF) (H : Heap) (locs : List Loc) (ls : Array Slot), Hp g B s h H locs → lv_has ls 4 [] → j  h = some o → W p l e (rmn (2 + 3 * (D + 1))) s m args below meth c H locs 0 0 Q (F0 m 125 ls [])) ?_ (fun j125 hj125 hf => ?_)
            · intro  h H locs ls  hp hl hf
              refine z_iconst cx dX10_readTerm_125 ?_
              refine lv_goto (tgt := 130) cx.1 cx.2.1 dX10_readTerm_126 (by decide) ?_
              exact hj130 1 h _ _ ls (by decide) hp (lv_sub hl [] rfl) hf
            refine z_icmp_lt cx rr3 (by decide) (tgt := 125) dX10_readTerm_102 (by decide) hf (fun _ hf => ?_) (fun _ hf => ?_)
            · exact hj125  h _ _ ls  hp (lv_sub hl [] rfl) hf
            · refine lv_aload_n cx.1 cx.2.1 dX10_readTerm_105 rfl (lv_at hl 2 rfl) ?_
              refine z_bipush cx (by decide) dX10_readTerm_106 ?_
              refine z_ci cx hp (fun o' hx => zrunV (n := (2 + 3 * (D + 1))) (As := [.int (ii 40)]) (rest := []) cx hp (mX10_takes F l g B h a0 40 ra0 (by decide) o' hx) 10 ra0 (by decide) rfl vw_X10_takes ml_X10_107 (by omega) rfl hl.1 rfl (Nat.le_of_ble_eq_true rfl) dX10_readTerm_108) hf (fun r15 h H locs rr15 hp hf => ?_)
              refine z_if_eq cx rr15 (tgt := 125) dX10_readTerm_111 (by decide) hf (fun _ hf => ?_) (fun _ hf => ?_)
              · exact hj125  h _ _ ls  hp (lv_sub hl [] rfl) hf
              · refine lv_aload_n cx.1 cx.2.1 dX10_readTerm_114 rfl (lv_at hl 2 rfl) ?_
                refine lv_iload_n cx.1 cx.2.1 dX10_readTerm_115 rfl (lv_at hl 0 rfl) ?_
                refine lv_iload_n cx.1 cx.2.1 dX10_readTerm_116 rfl (lv_at hl 3 rfl) ?_
                refine z_iconst cx dX10_readTerm_117 ?_
                refine z_iadd cx dX10_readTerm_118 ?_
                refine z_ci cx hp (fun o' hx => zrunV (n := (2 + 3 * (D + 1))) (As := [.int (ii r11), .int (ii (wr (a1 + 1)))]) (rest := []) cx hp (mX10_readArguments F (fX10_readTerm F D) (2 + 3 * D) l g B ihD h a0 r11 (wr (a1 + 1)) ra0 rr11 (rng_wr _) o' hx) 10 ra0 (by decide) rfl vw_X10_readArguments ml_X10_141 (by omega) rfl hl.1 rfl (Nat.le_of_ble_eq_true rfl) dX10_readTerm_119) hf (fun r16 h H locs rr16 hp hf => ?_)
                refine z_if_eq cx rr16 (tgt := 129) dX10_readTerm_122 (by decide) hf (fun _ hf => ?_) (fun _ hf => ?_)
                · refine z_iconst cx dX10_readTerm_129 ?_
                  exact hj130 0 h _ _ ls (by decide) hp (lv_sub hl [] rfl) hf
                · exact hj125  h _ _ ls  hp (lv_sub hl [] rfl) hf
          · exact hj60  h _ _ ls  hp (lv_sub hl [1] rfl) hf
        · exact hj60  h _ _ ls  hp (lv_sub hl [1] rfl) hf
      · refine lv_aload_n cx.1 cx.2.1 dX10_readTerm_30 rfl (lv_at hl 1 rfl) ?_
        refine z_iconst cx dX10_readTerm_31 ?_
        refine z_ci cx hp (fun o' hx => zrunV (n := (2 + 3 * (D + 1))) (As := [.int (ii 3)]) (rest := []) cx hp (mX10_failHere F l g B h a0 3 ra0 (by decide) o' hx) 10 ra0 (by decide) rfl vw_X10_failHere ml_X10_111 (by omega) rfl hl.1 rfl (Nat.le_of_ble_eq_true rfl) dX10_readTerm_32) hf (fun r17 h H locs rr17 hp hf => ?_)
        rw [hQ]; exact z_zret cx hp dX10_readTerm_35 hf
theorem dX10_compareArguments_0 : decode cX10_compareArguments 0 = .ok (.aload_n 0, 1) := by decide +kernel
theorem dX10_compareArguments_1 : decode cX10_compareArguments 1 = .ok (.getfield 21, 3) := by decide +kernel
theorem dX10_compareArguments_4 : decode cX10_compareArguments 4 = .ok (.iconst (-1), 1) := by decide +kernel
theorem dX10_compareArguments_5 : decode cX10_compareArguments 5 = .ok (.invokestatic 150, 3) := by decide +kernel
theorem dX10_compareArguments_8 : decode cX10_compareArguments 8 = .ok (.iconst 0, 1) := by decide +kernel
theorem dX10_compareArguments_9 : decode cX10_compareArguments 9 = .ok (.istore_n 1, 1) := by decide +kernel
theorem dX10_compareArguments_10 : decode cX10_compareArguments 10 = .ok (.iload_n 1, 1) := by decide +kernel
theorem dX10_compareArguments_11 : decode cX10_compareArguments 11 = .ok (.aload_n 0, 1) := by decide +kernel
theorem dX10_compareArguments_12 : decode cX10_compareArguments 12 = .ok (.getfield 94, 3) := by decide +kernel
theorem dX10_compareArguments_15 : decode cX10_compareArguments 15 = .ok (.getfield 126, 3) := by decide +kernel
theorem dX10_compareArguments_18 : decode cX10_compareArguments 18 = .ok (.if_icmp .ge 84, 3) := by decide +kernel
theorem dX10_compareArguments_21 : decode cX10_compareArguments 21 = .ok (.aload_n 0, 1) := by decide +kernel
theorem dX10_compareArguments_22 : decode cX10_compareArguments 22 = .ok (.getfield 94, 3) := by decide +kernel
theorem dX10_compareArguments_25 : decode cX10_compareArguments 25 = .ok (.getfield 156, 3) := by decide +kernel
theorem dX10_compareArguments_28 : decode cX10_compareArguments 28 = .ok (.iload_n 1, 1) := by decide +kernel
theorem dX10_compareArguments_29 : decode cX10_compareArguments 29 = .ok (.iaload, 1) := by decide +kernel
theorem dX10_compareArguments_30 : decode cX10_compareArguments 30 = .ok (.iconst 3, 1) := by decide +kernel
theorem dX10_compareArguments_31 : decode cX10_compareArguments 31 = .ok (.isub, 1) := by decide +kernel
theorem dX10_compareArguments_32 : decode cX10_compareArguments 32 = .ok (.istore_n 2, 1) := by decide +kernel
theorem dX10_compareArguments_33 : decode cX10_compareArguments 33 = .ok (.iload_n 2, 1) := by decide +kernel
theorem dX10_compareArguments_34 : decode cX10_compareArguments 34 = .ok (.ifCond .ge 6, 3) := by decide +kernel
theorem dX10_compareArguments_37 : decode cX10_compareArguments 37 = .ok (.goto 59, 3) := by decide +kernel
theorem dX10_compareArguments_40 : decode cX10_compareArguments 40 = .ok (.aload_n 0, 1) := by decide +kernel
theorem dX10_compareArguments_41 : decode cX10_compareArguments 41 = .ok (.getfield 21, 3) := by decide +kernel
theorem dX10_compareArguments_44 : decode cX10_compareArguments 44 = .ok (.iload_n 2, 1) := by decide +kernel
theorem dX10_compareArguments_45 : decode cX10_compareArguments 45 = .ok (.iaload, 1) := by decide +kernel
theorem dX10_compareArguments_46 : decode cX10_compareArguments 46 = .ok (.iconst (-1), 1) := by decide +kernel
theorem dX10_compareArguments_47 : decode cX10_compareArguments 47 = .ok (.if_icmp .ne 18, 3) := by decide +kernel
theorem dX10_compareArguments_50 : decode cX10_compareArguments 50 = .ok (.aload_n 0, 1) := by decide +kernel
theorem dX10_compareArguments_51 : decode cX10_compareArguments 51 = .ok (.getfield 21, 3) := by decide +kernel
theorem dX10_compareArguments_54 : decode cX10_compareArguments 54 = .ok (.iload_n 2, 1) := by decide +kernel
theorem dX10_compareArguments_55 : decode cX10_compareArguments 55 = .ok (.aload_n 0, 1) := by decide +kernel
theorem dX10_compareArguments_56 : decode cX10_compareArguments 56 = .ok (.getfield 94, 3) := by decide +kernel
theorem dX10_compareArguments_59 : decode cX10_compareArguments 59 = .ok (.getfield 144, 3) := by decide +kernel
theorem dX10_compareArguments_62 : decode cX10_compareArguments 62 = .ok (.iload_n 1, 1) := by decide +kernel
theorem dX10_compareArguments_63 : decode cX10_compareArguments 63 = .ok (.iaload, 1) := by decide +kernel
theorem dX10_compareArguments_64 : decode cX10_compareArguments 64 = .ok (.iastore, 1) := by decide +kernel
theorem dX10_compareArguments_65 : decode cX10_compareArguments 65 = .ok (.aload_n 0, 1) := by decide +kernel
theorem dX10_compareArguments_66 : decode cX10_compareArguments 66 = .ok (.getfield 21, 3) := by decide +kernel
theorem dX10_compareArguments_69 : decode cX10_compareArguments 69 = .ok (.iload_n 2, 1) := by decide +kernel
theorem dX10_compareArguments_70 : decode cX10_compareArguments 70 = .ok (.iaload, 1) := by decide +kernel
theorem dX10_compareArguments_71 : decode cX10_compareArguments 71 = .ok (.aload_n 0, 1) := by decide +kernel
theorem dX10_compareArguments_72 : decode cX10_compareArguments 72 = .ok (.getfield 94, 3) := by decide +kernel
theorem dX10_compareArguments_75 : decode cX10_compareArguments 75 = .ok (.getfield 144, 3) := by decide +kernel
theorem dX10_compareArguments_78 : decode cX10_compareArguments 78 = .ok (.iload_n 1, 1) := by decide +kernel
theorem dX10_compareArguments_79 : decode cX10_compareArguments 79 = .ok (.iaload, 1) := by decide +kernel
theorem dX10_compareArguments_80 : decode cX10_compareArguments 80 = .ok (.if_icmp .eq 16, 3) := by decide +kernel
theorem dX10_compareArguments_83 : decode cX10_compareArguments 83 = .ok (.aload_n 0, 1) := by decide +kernel
theorem dX10_compareArguments_84 : decode cX10_compareArguments 84 = .ok (.aload_n 0, 1) := by decide +kernel
theorem dX10_compareArguments_85 : decode cX10_compareArguments 85 = .ok (.getfield 18, 3) := by decide +kernel
theorem dX10_compareArguments_88 : decode cX10_compareArguments 88 = .ok (.iload_n 1, 1) := by decide +kernel
theorem dX10_compareArguments_89 : decode cX10_compareArguments 89 = .ok (.iaload, 1) := by decide +kernel
theorem dX10_compareArguments_90 : decode cX10_compareArguments 90 = .ok (.iconst 2, 1) := by decide +kernel
theorem dX10_compareArguments_91 : decode cX10_compareArguments 91 = .ok (.invokevirtual 55, 3) := by decide +kernel
theorem dX10_compareArguments_94 : decode cX10_compareArguments 94 = .ok (.pop, 1) := by decide +kernel
theorem dX10_compareArguments_95 : decode cX10_compareArguments 95 = .ok (.return_, 1) := by decide +kernel
theorem dX10_compareArguments_96 : decode cX10_compareArguments 96 = .ok (.iinc 1 1, 3) := by decide +kernel
theorem dX10_compareArguments_99 : decode cX10_compareArguments 99 = .ok (.goto (-89), 3) := by decide +kernel
theorem dX10_compareArguments_102 : decode cX10_compareArguments 102 = .ok (.return_, 1) := by decide +kernel
def LX10_compareArguments_10 (F : Nat) (u0 : Nat) (k102 : HF → RO) (k83 : Int → HF → RO) : Nat → Int → HF → RO
  | 0, _, _ => none
  | n + 1, v1, h =>
    zgd h u0 4 fun x4 =>
    zgf h x4 2 fun x5 =>
    if v1 < x5 then (
      zgd h u0 4 fun x6 =>
      zrd h (x6 + 5) v1 fun x7 =>
      zlet (wr (x7 - 3)) fun x8 =>
      zjn (fun (x96_1 : Int) (h : HF) => (
        zlet (wr (x96_1 + 1)) fun x9 =>
        LX10_compareArguments_10 F u0 k102 k83 n x9 h
      )) fun j96 =>
      if x8 < 0 then (
        j96 v1 h
      ) else (
        zrd h (u0 + 4) x8 fun x10 =>
        zjn (fun (x65_1 : Int) (x65_2 : Int) (h : HF) => (
          zrd h (u0 + 4) x65_2 fun x11 =>
          zgd h u0 4 fun x12 =>
          zrd h (x12 + 6) x65_1 fun x13 =>
          if x11 = x13 then (
            j96 x65_1 h
          ) else (
            k83 x65_1 h
          )
        )) fun j65 =>
        if x10 = (-1) then (
          zgd h u0 4 fun x14 =>
          zrd h (x14 + 6) v1 fun x15 =>
          zwr h (u0 + 4) x8 x15 fun h =>
          j65 v1 x8 h
        ) else (
          j65 v1 x8 h
        )
      )
    ) else (
      k102  h
    )
set_option maxHeartbeats 4000000 in
set_option maxRecDepth 100000 in
theorem wX10_compareArguments_10 {p : Program} {l : Launch} {e : Env} {s : State} {m : MethodId} {args : Array Value} {below : List Frame} {meth : Method} {c : Code} {Q : State → Prop} {g : zG} {B : Nat} {o : Int × HF} (F : Nat) (cx : Cx p s m args meth c cX10_compareArguments 3 RX10 none g B) (u0 : Nat) (ru0 : kt u0 = 13) (k102 : HF → RO) (hk102 : ∀  (h : HF) (H : Heap) (locs : List Loc) (ls : Array Slot), Hp g B s h H locs → lv_has ls 3 [] → k102  h = some o → W p l e (rmn 1) s m args below meth c H locs 0 0 Q (F0 m 102 ls [])) (k83 : Int → HF → RO) (hk83 : ∀ (x1 : Int) (h : HF) (H : Heap) (locs : List Loc) (ls : Array Slot), rng x1 → Hp g B s h H locs → lv_has ls 3 [(0, .ref (B + u0)), (1, .int (ii x1))] → k83 x1 h = some o → W p l e (rmn 1) s m args below meth c H locs 0 0 Q (F0 m 83 ls [])) : ∀ (n : Nat) (v1 : Int) (h : HF) (H : Heap) (locs : List Loc) (ls : Array Slot), rng v1 → Hp g B s h H locs → lv_has ls 3 [(0, .ref (B + u0)), (1, .int (ii v1))] → LX10_compareArguments_10 F u0 k102 k83 n v1 h = some o → W p l e (rmn 1) s m args below meth c H locs 0 0 Q (F0 m 10 ls []) := by
  intro n
  induction n with
  | zero =>
    intro v1 h H locs ls rv1 hp hl hf
    cases hf
  | succ n ih =>
    intro v1 h H locs ls rv1 hp hl hf
    rw [LX10_compareArguments_10] at hf
    refine lv_iload_n cx.1 cx.2.1 dX10_compareArguments_10 rfl (lv_at hl 1 rfl) ?_
    refine lv_aload_n cx.1 cx.2.1 dX10_compareArguments_11 rfl (lv_at hl 0 rfl) ?_
    refine z_getd cx hp (T := TX10) 10 4 7 rfl zin_10 (by decide) (by decide) ru0 rfl fl_X10_94 dX10_compareArguments_12 hf (fun x4 rx4 hf => ?_)
    refine z_geti cx hp (T := TX4) 4 2 rfl zin_4 (by decide) (by decide) rx4 rfl fl_X10_126 dX10_compareArguments_15 hf (fun x5 rx5 hf => ?_)
    refine z_icmp_ge cx rv1 rx5 (tgt := 102) dX10_compareArguments_18 (by decide) hf (fun _ hf => ?_) (fun _ hf => ?_)
    · refine lv_aload_n cx.1 cx.2.1 dX10_compareArguments_21 rfl (lv_at hl 0 rfl) ?_
      refine z_getd cx hp (T := TX10) 10 4 7 rfl zin_10 (by decide) (by decide) ru0 rfl fl_X10_94 dX10_compareArguments_22 hf (fun x6 rx6 hf => ?_)
      refine z_gets cx hp (T := TX4) 4 7 (x6 + 5) rfl zin_4 (by decide) (by decide) rx6 rfl fl_X10_156 dX10_compareArguments_25 ?_
      refine lv_iload_n cx.1 cx.2.1 dX10_compareArguments_28 rfl (lv_at hl 1 rfl) ?_
      refine z_iald cx hp (zs_4_7 x6 (kt_lt rx6 (by decide)) rx6) rv1 dX10_compareArguments_29 hf (fun x7 rx7 hf => ?_)
      refine z_iconst cx dX10_compareArguments_30 ?_
      refine z_isub cx dX10_compareArguments_31 ?_
      refine z_let (rng_wr _) hf (fun x8 rx8 hf => ?_)
      refine lv_istore_n (lv' := [(2, .int (ii x8)), (0, .ref (B + u0)), (1, .int (ii v1))]) cx.1 cx.2.1 dX10_compareArguments_32 rfl hl (by decide) rfl (fun ls hl => ?_)
      refine lv_iload_n cx.1 cx.2.1 dX10_compareArguments_33 rfl (lv_at hl 0 rfl) ?_
      refine z_jn hf (fun j => ∀ (x96_1 : Int) (h : HF) (H : Heap) (locs : List Loc) (ls : Array Slot), rng x96_1 → Hp g B s h H locs → lv_has ls 3 [(0, .ref (B + u0)), (1, .int (ii x96_1))] → j x96_1 h = some o → W p l e (rmn 1) s m args below meth c H locs 0 0 Q (F0 m 96 ls [])) ?_ (fun j96 hj96 hf => ?_)
      · intro x96_1 h H locs ls rx96_1 hp hl hf
        refine z_iinc cx (fun x9 => [(1, .int (ii x9)), (0, .ref (B + u0))]) dX10_compareArguments_96 hl (k := 1) rfl (by decide) (fun _ => rfl) hf (fun x9 rx9 hf ls hl => ?_)
        refine lv_goto (tgt := 10) cx.1 cx.2.1 dX10_compareArguments_99 (by decide) ?_
        exact ih x9 h _ _ ls rx9 hp (lv_sub hl [1, 0] rfl) hf
      refine z_if_ge cx rx8 (tgt := 40) dX10_compareArguments_34 (by decide) hf (fun _ hf => ?_) (fun _ hf => ?_)
      · refine lv_goto (tgt := 96) cx.1 cx.2.1 dX10_compareArguments_37 (by decide) ?_
        exact hj96 v1 h _ _ ls rv1 hp (lv_sub hl [1, 2] rfl) hf
      · refine lv_aload_n cx.1 cx.2.1 dX10_compareArguments_40 rfl (lv_at hl 1 rfl) ?_
        refine z_gets cx hp (T := TX10) 10 8 (u0 + 4) rfl zin_10 (by decide) (by decide) ru0 rfl fl_X10_21 dX10_compareArguments_41 ?_
        refine lv_iload_n cx.1 cx.2.1 dX10_compareArguments_44 rfl (lv_at hl 0 rfl) ?_
        refine z_iald cx hp (zs_10_8 u0 (kt_lt ru0 (by decide)) ru0) rx8 dX10_compareArguments_45 hf (fun x10 rx10 hf => ?_)
        refine z_iconst cx dX10_compareArguments_46 ?_
        refine z_jn hf (fun j => ∀ (x65_1 : Int) (x65_2 : Int) (h : HF) (H : Heap) (locs : List Loc) (ls : Array Slot), rng x65_1 → rng x65_2 → Hp g B s h H locs → lv_has ls 3 [(0, .ref (B + u0)), (1, .int (ii x65_1)), (2, .int (ii x65_2))] → j x65_1 x65_2 h = some o → W p l e (rmn 1) s m args below meth c H locs 0 0 Q (F0 m 65 ls [])) ?_ (fun j65 hj65 hf => ?_)
        · intro x65_1 x65_2 h H locs ls rx65_1 rx65_2 hp hl hf
          refine lv_aload_n cx.1 cx.2.1 dX10_compareArguments_65 rfl (lv_at hl 0 rfl) ?_
          refine z_gets cx hp (T := TX10) 10 8 (u0 + 4) rfl zin_10 (by decide) (by decide) ru0 rfl fl_X10_21 dX10_compareArguments_66 ?_
          refine lv_iload_n cx.1 cx.2.1 dX10_compareArguments_69 rfl (lv_at hl 2 rfl) ?_
          refine z_iald cx hp (zs_10_8 u0 (kt_lt ru0 (by decide)) ru0) rx65_2 dX10_compareArguments_70 hf (fun x11 rx11 hf => ?_)
          refine lv_aload_n cx.1 cx.2.1 dX10_compareArguments_71 rfl (lv_at hl 0 rfl) ?_
          refine z_getd cx hp (T := TX10) 10 4 7 rfl zin_10 (by decide) (by decide) ru0 rfl fl_X10_94 dX10_compareArguments_72 hf (fun x12 rx12 hf => ?_)
          refine z_gets cx hp (T := TX4) 4 8 (x12 + 6) rfl zin_4 (by decide) (by decide) rx12 rfl fl_X10_144 dX10_compareArguments_75 ?_
          refine lv_iload_n cx.1 cx.2.1 dX10_compareArguments_78 rfl (lv_at hl 1 rfl) ?_
          refine z_iald cx hp (zs_4_8 x12 (kt_lt rx12 (by decide)) rx12) rx65_1 dX10_compareArguments_79 hf (fun x13 rx13 hf => ?_)
          refine z_icmp_eq cx rx11 rx13 (tgt := 96) dX10_compareArguments_80 (by decide) hf (fun _ hf => ?_) (fun _ hf => ?_)
          · exact hj96 x65_1 h _ _ ls rx65_1 hp (lv_sub hl [0, 1] rfl) hf
          · exact hk83 x65_1 h _ _ ls rx65_1 hp (lv_sub hl [0, 1] rfl) hf
        refine z_icmp_ne cx rx10 (by decide) (tgt := 65) dX10_compareArguments_47 (by decide) hf (fun _ hf => ?_) (fun _ hf => ?_)
        · refine lv_aload_n cx.1 cx.2.1 dX10_compareArguments_50 rfl (lv_at hl 1 rfl) ?_
          refine z_gets cx hp (T := TX10) 10 8 (u0 + 4) rfl zin_10 (by decide) (by decide) ru0 rfl fl_X10_21 dX10_compareArguments_51 ?_
          refine lv_iload_n cx.1 cx.2.1 dX10_compareArguments_54 rfl (lv_at hl 0 rfl) ?_
          refine lv_aload_n cx.1 cx.2.1 dX10_compareArguments_55 rfl (lv_at hl 1 rfl) ?_
          refine z_getd cx hp (T := TX10) 10 4 7 rfl zin_10 (by decide) (by decide) ru0 rfl fl_X10_94 dX10_compareArguments_56 hf (fun x14 rx14 hf => ?_)
          refine z_gets cx hp (T := TX4) 4 8 (x14 + 6) rfl zin_4 (by decide) (by decide) rx14 rfl fl_X10_144 dX10_compareArguments_59 ?_
          refine lv_iload_n cx.1 cx.2.1 dX10_compareArguments_62 rfl (lv_at hl 2 rfl) ?_
          refine z_iald cx hp (zs_4_8 x14 (kt_lt rx14 (by decide)) rx14) rv1 dX10_compareArguments_63 hf (fun x15 rx15 hf => ?_)
          refine z_iast cx hp (zs_10_8 u0 (kt_lt ru0 (by decide)) ru0) rx8 rx15 dX10_compareArguments_64 hf (fun h H locs hp hf => ?_)
          exact hj65 v1 x8 h _ _ ls rv1 rx8 hp (lv_sub hl [1, 2, 0] rfl) hf
        · exact hj65 v1 x8 h _ _ ls rv1 rx8 hp (lv_sub hl [1, 2, 0] rfl) hf
    · exact hk102  h _ _ ls  hp (lv_sub hl [] rfl) hf
def fX10_compareArguments (F : Nat) (a0 : Nat) (h : HF) : RO :=
  zbd (fJ7_fill_53178 F (a0 + 4) (-1) h) fun _ h =>
  zjn (fun  (h : HF) => (
    some (0, h)
  )) fun j102 =>
  zjn (fun (x83_1 : Int) (h : HF) => (
    zrd h (a0 + 3) x83_1 fun x2 =>
    zbd (fX10_failAt F a0 x2 2 h) fun r3 h =>
    some (0, h)
  )) fun j83 =>
  LX10_compareArguments_10 F a0 j102 j83 F 0 h
set_option maxHeartbeats 4000000 in
set_option maxRecDepth 100000 in
theorem mX10_compareArguments (F : Nat) (l : Launch) (g : zG) (B : Nat) (h : HF) (a0 : Nat) (ra0 : kt a0 = 13) : CTv l g B yX10_compareArguments cX10_compareArguments 3 1 [.ref (B + a0)] h (fX10_compareArguments F a0 h) := by
  refine z_enterV (by decide) rfl (Nat.le_of_ble_eq_true rfl) ?_
  intro p e s m args below meth c ls o Q cx hp hl hf hQ
  have hl : lv_has ls 3 [(0, .ref (B + a0))] := hl
  unfold fX10_compareArguments at hf
  refine lv_aload_n cx.1 cx.2.1 dX10_compareArguments_0 rfl (lv_at hl 0 rfl) ?_
  refine z_gets cx hp (T := TX10) 10 8 (a0 + 4) rfl zin_10 (by decide) (by decide) ra0 rfl fl_X10_21 dX10_compareArguments_1 ?_
  refine z_iconst cx dX10_compareArguments_4 ?_
  refine z_cv cx hp (fun o' hx => zrunS (n := 1) (As := [.ref (B + (a0 + 4)), .int (ii (-1))]) (rest := []) cx hp (mJ7_fill_53178 F l g B h (a0 + 4) (-1) (zs_10_8 a0 (kt_lt ra0 (by decide)) ra0) (by decide) o' hx) sw_J7_fill_53178 ml_X10_150 (by decide) rfl hl.1 rfl (Nat.le_of_ble_eq_true rfl) dX10_compareArguments_5) hf (fun _ h H locs hp hf => ?_)
  refine z_iconst cx dX10_compareArguments_8 ?_
  refine lv_istore_n (lv' := [(1, .int (ii 0)), (0, .ref (B + a0))]) cx.1 cx.2.1 dX10_compareArguments_9 rfl hl (by decide) rfl (fun ls hl => ?_)
  refine z_jn hf (fun j => ∀  (h : HF) (H : Heap) (locs : List Loc) (ls : Array Slot), Hp g B s h H locs → lv_has ls 3 [] → j  h = some o → W p l e (rmn 1) s m args below meth c H locs 0 0 Q (F0 m 102 ls [])) ?_ (fun j102 hj102 hf => ?_)
  · intro  h H locs ls  hp hl hf
    rw [hQ]; exact z_vret cx hp dX10_compareArguments_102 hf
  refine z_jn hf (fun j => ∀ (x83_1 : Int) (h : HF) (H : Heap) (locs : List Loc) (ls : Array Slot), rng x83_1 → Hp g B s h H locs → lv_has ls 3 [(0, .ref (B + a0)), (1, .int (ii x83_1))] → j x83_1 h = some o → W p l e (rmn 1) s m args below meth c H locs 0 0 Q (F0 m 83 ls [])) ?_ (fun j83 hj83 hf => ?_)
  · intro x83_1 h H locs ls rx83_1 hp hl hf
    refine lv_aload_n cx.1 cx.2.1 dX10_compareArguments_83 rfl (lv_at hl 0 rfl) ?_
    refine lv_aload_n cx.1 cx.2.1 dX10_compareArguments_84 rfl (lv_at hl 0 rfl) ?_
    refine z_gets cx hp (T := TX10) 10 7 (a0 + 3) rfl zin_10 (by decide) (by decide) ra0 rfl fl_X10_18 dX10_compareArguments_85 ?_
    refine lv_iload_n cx.1 cx.2.1 dX10_compareArguments_88 rfl (lv_at hl 1 rfl) ?_
    refine z_iald cx hp (zs_10_7 a0 (kt_lt ra0 (by decide)) ra0) rx83_1 dX10_compareArguments_89 hf (fun x2 rx2 hf => ?_)
    refine z_iconst cx dX10_compareArguments_90 ?_
    refine z_ci cx hp (fun o' hx => zrunV (n := 1) (As := [.int (ii x2), .int (ii 2)]) (rest := []) cx hp (mX10_failAt F l g B h a0 x2 2 ra0 rx2 (by decide) o' hx) 10 ra0 (by decide) rfl vw_X10_failAt ml_X10_55 (by decide) rfl hl.1 rfl (Nat.le_of_ble_eq_true rfl) dX10_compareArguments_91) hf (fun r3 h H locs rr3 hp hf => ?_)
    refine lv_pop cx.1 cx.2.1 dX10_compareArguments_94 rfl ?_
    rw [hQ]; exact z_vret cx hp dX10_compareArguments_95 hf
  exact wX10_compareArguments_10 F cx a0 ra0 j102 hj102 j83 hj83 F 0 h _ _ ls (by decide) hp (lv_sub hl [1, 0] rfl) hf
theorem dX11_set_0 : decode cX11_set 0 = .ok (.aload_n 0, 1) := by decide +kernel
theorem dX11_set_1 : decode cX11_set 1 = .ok (.iload_n 1, 1) := by decide +kernel
theorem dX11_set_2 : decode cX11_set 2 = .ok (.iload_n 2, 1) := by decide +kernel
theorem dX11_set_3 : decode cX11_set 3 = .ok (.invokevirtual 141, 3) := by decide +kernel
theorem dX11_set_6 : decode cX11_set 6 = .ok (.istore 6, 2) := by decide +kernel
theorem dX11_set_8 : decode cX11_set 8 = .ok (.iload 6, 2) := by decide +kernel
theorem dX11_set_10 : decode cX11_set 10 = .ok (.ifCond .eq 6, 3) := by decide +kernel
theorem dX11_set_13 : decode cX11_set 13 = .ok (.iload 6, 2) := by decide +kernel
theorem dX11_set_15 : decode cX11_set 15 = .ok (.ireturn, 1) := by decide +kernel
theorem dX11_set_16 : decode cX11_set 16 = .ok (.aload_n 0, 1) := by decide +kernel
theorem dX11_set_17 : decode cX11_set 17 = .ok (.getfield 23, 3) := by decide +kernel
theorem dX11_set_20 : decode cX11_set 20 = .ok (.iload_n 1, 1) := by decide +kernel
theorem dX11_set_21 : decode cX11_set 21 = .ok (.aaload, 1) := by decide +kernel
theorem dX11_set_22 : decode cX11_set 22 = .ok (.astore 7, 2) := by decide +kernel
theorem dX11_set_24 : decode cX11_set 24 = .ok (.aload 7, 2) := by decide +kernel
theorem dX11_set_26 : decode cX11_set 26 = .ok (.iload_n 2, 1) := by decide +kernel
theorem dX11_set_27 : decode cX11_set 27 = .ok (.iload_n 3, 1) := by decide +kernel
theorem dX11_set_28 : decode cX11_set 28 = .ok (.iload 4, 2) := by decide +kernel
theorem dX11_set_30 : decode cX11_set 30 = .ok (.invokevirtual 145, 3) := by decide +kernel
theorem dX11_set_33 : decode cX11_set 33 = .ok (.ifCond .eq 13, 3) := by decide +kernel
theorem dX11_set_36 : decode cX11_set 36 = .ok (.aload 7, 2) := by decide +kernel
theorem dX11_set_38 : decode cX11_set 38 = .ok (.iload 5, 2) := by decide +kernel
theorem dX11_set_40 : decode cX11_set 40 = .ok (.invokevirtual 149, 3) := by decide +kernel
theorem dX11_set_43 : decode cX11_set 43 = .ok (.ifCond .ne 6, 3) := by decide +kernel
theorem dX11_set_49 : decode cX11_set 49 = .ok (.aload_n 0, 1) := by decide +kernel
theorem dX11_set_50 : decode cX11_set 50 = .ok (.getfield 35, 3) := by decide +kernel
theorem dX11_set_53 : decode cX11_set 53 = .ok (.iload_n 1, 1) := by decide +kernel
theorem dX11_set_54 : decode cX11_set 54 = .ok (.aload 7, 2) := by decide +kernel
theorem dX11_set_56 : decode cX11_set 56 = .ok (.invokevirtual 152, 3) := by decide +kernel
theorem dX11_set_59 : decode cX11_set 59 = .ok (.aload 7, 2) := by decide +kernel
theorem dX11_set_61 : decode cX11_set 61 = .ok (.iload_n 2, 1) := by decide +kernel
theorem dX11_set_62 : decode cX11_set 62 = .ok (.iload_n 3, 1) := by decide +kernel
theorem dX11_set_63 : decode cX11_set 63 = .ok (.iload 4, 2) := by decide +kernel
theorem dX11_set_65 : decode cX11_set 65 = .ok (.invokevirtual 156, 3) := by decide +kernel
theorem dX11_set_68 : decode cX11_set 68 = .ok (.istore 8, 2) := by decide +kernel
theorem dX11_set_70 : decode cX11_set 70 = .ok (.aload 7, 2) := by decide +kernel
theorem dX11_set_72 : decode cX11_set 72 = .ok (.getfield 160, 3) := by decide +kernel
theorem dX11_set_75 : decode cX11_set 75 = .ok (.iload 8, 2) := by decide +kernel
theorem dX11_set_77 : decode cX11_set 77 = .ok (.iaload, 1) := by decide +kernel
theorem dX11_set_78 : decode cX11_set 78 = .ok (.istore 9, 2) := by decide +kernel
theorem dX11_set_80 : decode cX11_set 80 = .ok (.aload 7, 2) := by decide +kernel
theorem dX11_set_82 : decode cX11_set 82 = .ok (.getfield 160, 3) := by decide +kernel
theorem dX11_set_85 : decode cX11_set 85 = .ok (.iload 8, 2) := by decide +kernel
theorem dX11_set_87 : decode cX11_set 87 = .ok (.iload 5, 2) := by decide +kernel
theorem dX11_set_89 : decode cX11_set 89 = .ok (.iastore, 1) := by decide +kernel
theorem dX11_set_90 : decode cX11_set 90 = .ok (.iload 9, 2) := by decide +kernel
theorem dX11_set_92 : decode cX11_set 92 = .ok (.ireturn, 1) := by decide +kernel
theorem dX11_set_46 : decode cX11_set 46 = .ok (.bipush (-3), 2) := by decide +kernel
theorem dX11_set_48 : decode cX11_set 48 = .ok (.ireturn, 1) := by decide +kernel
def fX11_set (F : Nat) (a0 : Nat) (a1 : Int) (a2 : Int) (a3 : Int) (a4 : Int) (a5 : Int) (h : HF) : RO :=
  zbd (fX11_refuseOperation F a0 a1 a2 h) fun r1 h =>
  if r1 = 0 then (
    zrs (a0 + 5) a1 fun x2 =>
    zbd (fX0_hasCell F x2 a2 a3 a4 h) fun r3 h =>
    zjn (fun  (h : HF) => (
      some ((-3), h)
    )) fun j46 =>
    if r3 = 0 then (
      j46  h
    ) else (
      zbd (fX0_hasElement F x2 a5 h) fun r4 h =>
      if r4 = 0 then (
        j46  h
      ) else (
        zbd (fX3_keep F (a0 + 10) a1 x2 h) fun _ h =>
        zbd (fX0_spot F x2 a2 a3 a4 h) fun r6 h =>
        zrd h (x2 + 3) r6 fun x7 =>
        zwr h (x2 + 3) r6 a5 fun h =>
        some (x7, h)
      )
    )
  ) else (
    some (r1, h)
  )
set_option maxHeartbeats 4000000 in
set_option maxRecDepth 100000 in
theorem mX11_set (F : Nat) (l : Launch) (g : zG) (B : Nat) (h : HF) (a0 : Nat) (a1 : Int) (a2 : Int) (a3 : Int) (a4 : Int) (a5 : Int) (ra0 : kt a0 = 14) (ra1 : rng a1) (ra2 : rng a2) (ra3 : rng a3) (ra4 : rng a4) (ra5 : rng a5) : CTi l g B yX11_set cX11_set 10 (some .int) 3 [.ref (B + a0), .int (ii a1), .int (ii a2), .int (ii a3), .int (ii a4), .int (ii a5)] h (fX11_set F a0 a1 a2 a3 a4 a5 h) := by
  refine z_enterI (by decide) rfl (Nat.le_of_ble_eq_true rfl) ?_
  intro p e s m args below meth c ls o Q cx hp hl hf hQ
  have hl : lv_has ls 10 [(0, .ref (B + a0)), (1, .int (ii a1)), (2, .int (ii a2)), (3, .int (ii a3)), (4, .int (ii a4)), (5, .int (ii a5))] := hl
  unfold fX11_set at hf
  refine lv_aload_n cx.1 cx.2.1 dX11_set_0 rfl (lv_at hl 0 rfl) ?_
  refine lv_iload_n cx.1 cx.2.1 dX11_set_1 rfl (lv_at hl 1 rfl) ?_
  refine lv_iload_n cx.1 cx.2.1 dX11_set_2 rfl (lv_at hl 2 rfl) ?_
  refine z_ci cx hp (fun o' hx => zrunV (n := 3) (As := [.int (ii a1), .int (ii a2)]) (rest := []) cx hp (mX11_refuseOperation F l g B h a0 a1 a2 ra0 ra1 ra2 o' hx) 11 ra0 (by decide) rfl vw_X11_refuseOperation ml_X11_141 (by decide) rfl hl.1 rfl (Nat.le_of_ble_eq_true rfl) dX11_set_3) hf (fun r1 h H locs rr1 hp hf => ?_)
  refine lv_istore (lv' := [(6, .int (ii r1)), (0, .ref (B + a0)), (1, .int (ii a1)), (2, .int (ii a2)), (3, .int (ii a3)), (4, .int (ii a4)), (5, .int (ii a5))]) cx.1 cx.2.1 dX11_set_6 hl (by decide) rfl (fun ls hl => ?_)
  refine lv_iload cx.1 cx.2.1 dX11_set_8 (lv_at hl 0 rfl) ?_
  refine z_if_eq cx rr1 (tgt := 16) dX11_set_10 (by decide) hf (fun _ hf => ?_) (fun _ hf => ?_)
  · refine lv_aload_n cx.1 cx.2.1 dX11_set_16 rfl (lv_at hl 1 rfl) ?_
    refine z_gets cx hp (T := TX11) 11 2 (a0 + 5) rfl zin_11 (by decide) (by decide) ra0 rfl fl_X11_23 dX11_set_17 ?_
    refine lv_iload_n cx.1 cx.2.1 dX11_set_20 rfl (lv_at hl 2 rfl) ?_
    refine z_aald1 cx hp (zs_11_2 a0 (kt_lt ra0 (by decide)) ra0) ra1 dX11_set_21 hf (fun x2 rx2 hf => ?_)
    refine lv_astore (lv' := [(7, .ref (B + x2)), (6, .int (ii r1)), (0, .ref (B + a0)), (1, .int (ii a1)), (2, .int (ii a2)), (3, .int (ii a3)), (4, .int (ii a4)), (5, .int (ii a5))]) cx.1 cx.2.1 dX11_set_22 hl (by decide) rfl (fun ls hl => ?_)
    refine lv_aload cx.1 cx.2.1 dX11_set_24 (lv_at hl 0 rfl) ?_
    refine lv_iload_n cx.1 cx.2.1 dX11_set_26 rfl (lv_at hl 4 rfl) ?_
    refine lv_iload_n cx.1 cx.2.1 dX11_set_27 rfl (lv_at hl 5 rfl) ?_
    refine lv_iload cx.1 cx.2.1 dX11_set_28 (lv_at hl 6 rfl) ?_
    refine z_ci cx hp (fun o' hx => zrunV (n := 3) (As := [.int (ii a2), .int (ii a3), .int (ii a4)]) (rest := []) cx hp (mX0_hasCell F l g B h x2 a2 a3 a4 rx2 ra2 ra3 ra4 o' hx) 0 rx2 (by decide) rfl vw_X0_hasCell ml_X11_145 (by decide) rfl hl.1 rfl (Nat.le_of_ble_eq_true rfl) dX11_set_30) hf (fun r3 h H locs rr3 hp hf => ?_)
    refine z_jn hf (fun j => ∀  (h : HF) (H : Heap) (locs : List Loc) (ls : Array Slot), Hp g B s h H locs → lv_has ls 10 [] → j  h = some o → W p l e (rmn 3) s m args below meth c H locs 0 0 Q (F0 m 46 ls [])) ?_ (fun j46 hj46 hf => ?_)
    · intro  h H locs ls  hp hl hf
      refine z_bipush cx (by decide) dX11_set_46 ?_
      rw [hQ]; exact z_iret cx hp (by decide) dX11_set_48 hf
    refine z_if_eq cx rr3 (tgt := 46) dX11_set_33 (by decide) hf (fun _ hf => ?_) (fun _ hf => ?_)
    · exact hj46  h _ _ ls  hp (lv_sub hl [] rfl) hf
    · refine lv_aload cx.1 cx.2.1 dX11_set_36 (lv_at hl 0 rfl) ?_
      refine lv_iload cx.1 cx.2.1 dX11_set_38 (lv_at hl 7 rfl) ?_
      refine z_ci cx hp (fun o' hx => zrunV (n := 3) (As := [.int (ii a5)]) (rest := []) cx hp (mX0_hasElement F l g B h x2 a5 rx2 ra5 o' hx) 0 rx2 (by decide) rfl vw_X0_hasElement ml_X11_149 (by decide) rfl hl.1 rfl (Nat.le_of_ble_eq_true rfl) dX11_set_40) hf (fun r4 h H locs rr4 hp hf => ?_)
      refine z_if_ne cx rr4 (tgt := 49) dX11_set_43 (by decide) hf (fun _ hf => ?_) (fun _ hf => ?_)
      · exact hj46  h _ _ ls  hp (lv_sub hl [] rfl) hf
      · refine lv_aload_n cx.1 cx.2.1 dX11_set_49 rfl (lv_at hl 2 rfl) ?_
        refine z_gets cx hp (T := TX11) 11 4 (a0 + 10) rfl zin_11 (by decide) (by decide) ra0 rfl fl_X11_35 dX11_set_50 ?_
        refine lv_iload_n cx.1 cx.2.1 dX11_set_53 rfl (lv_at hl 3 rfl) ?_
        refine lv_aload cx.1 cx.2.1 dX11_set_54 (lv_at hl 0 rfl) ?_
        refine z_cv cx hp (fun o' hx => zrunV (n := 3) (As := [.int (ii a1), .ref (B + x2)]) (rest := []) cx hp (mX3_keep F l g B h (a0 + 10) a1 x2 (zs_11_4 a0 (kt_lt ra0 (by decide)) ra0) ra1 rx2 o' hx) 3 (zs_11_4 a0 (kt_lt ra0 (by decide)) ra0) (by decide) rfl vw_X3_keep ml_X11_152 (by decide) rfl hl.1 rfl (Nat.le_of_ble_eq_true rfl) dX11_set_56) hf (fun _ h H locs hp hf => ?_)
        refine lv_aload cx.1 cx.2.1 dX11_set_59 (lv_at hl 0 rfl) ?_
        refine lv_iload_n cx.1 cx.2.1 dX11_set_61 rfl (lv_at hl 4 rfl) ?_
        refine lv_iload_n cx.1 cx.2.1 dX11_set_62 rfl (lv_at hl 5 rfl) ?_
        refine lv_iload cx.1 cx.2.1 dX11_set_63 (lv_at hl 6 rfl) ?_
        refine z_ci cx hp (fun o' hx => zrunV (n := 3) (As := [.int (ii a2), .int (ii a3), .int (ii a4)]) (rest := []) cx hp (mX0_spot F l g B h x2 a2 a3 a4 rx2 ra2 ra3 ra4 o' hx) 0 rx2 (by decide) rfl vw_X0_spot ml_X11_156 (by decide) rfl hl.1 rfl (Nat.le_of_ble_eq_true rfl) dX11_set_65) hf (fun r6 h H locs rr6 hp hf => ?_)
        refine lv_istore (lv' := [(8, .int (ii r6)), (7, .ref (B + x2)), (6, .int (ii r1)), (0, .ref (B + a0)), (1, .int (ii a1)), (2, .int (ii a2)), (3, .int (ii a3)), (4, .int (ii a4)), (5, .int (ii a5))]) cx.1 cx.2.1 dX11_set_68 hl (by decide) rfl (fun ls hl => ?_)
        refine lv_aload cx.1 cx.2.1 dX11_set_70 (lv_at hl 1 rfl) ?_
        refine z_gets cx hp (T := TX0) 0 5 (x2 + 3) rfl zin_0 (by decide) (by decide) rx2 rfl fl_X11_160 dX11_set_72 ?_
        refine lv_iload cx.1 cx.2.1 dX11_set_75 (lv_at hl 0 rfl) ?_
        refine z_iald cx hp (zs_0_5 x2 (kt_lt rx2 (by decide)) rx2) rr6 dX11_set_77 hf (fun x7 rx7 hf => ?_)
        refine lv_istore (lv' := [(9, .int (ii x7)), (8, .int (ii r6)), (7, .ref (B + x2)), (6, .int (ii r1)), (0, .ref (B + a0)), (1, .int (ii a1)), (2, .int (ii a2)), (3, .int (ii a3)), (4, .int (ii a4)), (5, .int (ii a5))]) cx.1 cx.2.1 dX11_set_78 hl (by decide) rfl (fun ls hl => ?_)
        refine lv_aload cx.1 cx.2.1 dX11_set_80 (lv_at hl 2 rfl) ?_
        refine z_gets cx hp (T := TX0) 0 5 (x2 + 3) rfl zin_0 (by decide) (by decide) rx2 rfl fl_X11_160 dX11_set_82 ?_
        refine lv_iload cx.1 cx.2.1 dX11_set_85 (lv_at hl 1 rfl) ?_
        refine lv_iload cx.1 cx.2.1 dX11_set_87 (lv_at hl 9 rfl) ?_
        refine z_iast cx hp (zs_0_5 x2 (kt_lt rx2 (by decide)) rx2) rr6 ra5 dX11_set_89 hf (fun h H locs hp hf => ?_)
        refine lv_iload cx.1 cx.2.1 dX11_set_90 (lv_at hl 0 rfl) ?_
        rw [hQ]; exact z_iret cx hp rx7 dX11_set_92 hf
  · refine lv_iload cx.1 cx.2.1 dX11_set_13 (lv_at hl 0 rfl) ?_
    rw [hQ]; exact z_iret cx hp rr1 dX11_set_15 hf
theorem dX11_cell_0 : decode cX11_cell 0 = .ok (.aload_n 0, 1) := by decide +kernel
theorem dX11_cell_1 : decode cX11_cell 1 = .ok (.iload_n 1, 1) := by decide +kernel
theorem dX11_cell_2 : decode cX11_cell 2 = .ok (.iload_n 2, 1) := by decide +kernel
theorem dX11_cell_3 : decode cX11_cell 3 = .ok (.invokevirtual 141, 3) := by decide +kernel
theorem dX11_cell_6 : decode cX11_cell 6 = .ok (.istore 6, 2) := by decide +kernel
theorem dX11_cell_8 : decode cX11_cell 8 = .ok (.iload 6, 2) := by decide +kernel
theorem dX11_cell_10 : decode cX11_cell 10 = .ok (.ifCond .eq 6, 3) := by decide +kernel
theorem dX11_cell_13 : decode cX11_cell 13 = .ok (.iload 6, 2) := by decide +kernel
theorem dX11_cell_15 : decode cX11_cell 15 = .ok (.ireturn, 1) := by decide +kernel
theorem dX11_cell_16 : decode cX11_cell 16 = .ok (.iload_n 3, 1) := by decide +kernel
theorem dX11_cell_17 : decode cX11_cell 17 = .ok (.ifCond .lt 8, 3) := by decide +kernel
theorem dX11_cell_20 : decode cX11_cell 20 = .ok (.iload_n 3, 1) := by decide +kernel
theorem dX11_cell_21 : decode cX11_cell 21 = .ok (.iconst 2, 1) := by decide +kernel
theorem dX11_cell_22 : decode cX11_cell 22 = .ok (.if_icmp .le 6, 3) := by decide +kernel
theorem dX11_cell_28 : decode cX11_cell 28 = .ok (.aload_n 0, 1) := by decide +kernel
theorem dX11_cell_29 : decode cX11_cell 29 = .ok (.getfield 23, 3) := by decide +kernel
theorem dX11_cell_32 : decode cX11_cell 32 = .ok (.iload_n 1, 1) := by decide +kernel
theorem dX11_cell_33 : decode cX11_cell 33 = .ok (.aaload, 1) := by decide +kernel
theorem dX11_cell_34 : decode cX11_cell 34 = .ok (.astore 7, 2) := by decide +kernel
theorem dX11_cell_36 : decode cX11_cell 36 = .ok (.aload 7, 2) := by decide +kernel
theorem dX11_cell_38 : decode cX11_cell 38 = .ok (.getfield 163, 3) := by decide +kernel
theorem dX11_cell_41 : decode cX11_cell 41 = .ok (.iload_n 2, 1) := by decide +kernel
theorem dX11_cell_42 : decode cX11_cell 42 = .ok (.iaload, 1) := by decide +kernel
theorem dX11_cell_43 : decode cX11_cell 43 = .ok (.iload_n 3, 1) := by decide +kernel
theorem dX11_cell_44 : decode cX11_cell 44 = .ok (.if_icmp .eq 6, 3) := by decide +kernel
theorem dX11_cell_47 : decode cX11_cell 47 = .ok (.bipush (-12), 2) := by decide +kernel
theorem dX11_cell_49 : decode cX11_cell 49 = .ok (.ireturn, 1) := by decide +kernel
theorem dX11_cell_50 : decode cX11_cell 50 = .ok (.aload 7, 2) := by decide +kernel
theorem dX11_cell_52 : decode cX11_cell 52 = .ok (.iload_n 2, 1) := by decide +kernel
theorem dX11_cell_53 : decode cX11_cell 53 = .ok (.iload 4, 2) := by decide +kernel
theorem dX11_cell_55 : decode cX11_cell 55 = .ok (.iload 5, 2) := by decide +kernel
theorem dX11_cell_57 : decode cX11_cell 57 = .ok (.invokevirtual 145, 3) := by decide +kernel
theorem dX11_cell_60 : decode cX11_cell 60 = .ok (.ifCond .eq 16, 3) := by decide +kernel
theorem dX11_cell_63 : decode cX11_cell 63 = .ok (.aload 7, 2) := by decide +kernel
theorem dX11_cell_65 : decode cX11_cell 65 = .ok (.iload_n 2, 1) := by decide +kernel
theorem dX11_cell_66 : decode cX11_cell 66 = .ok (.iload 4, 2) := by decide +kernel
theorem dX11_cell_68 : decode cX11_cell 68 = .ok (.iload 5, 2) := by decide +kernel
theorem dX11_cell_70 : decode cX11_cell 70 = .ok (.invokevirtual 166, 3) := by decide +kernel
theorem dX11_cell_73 : decode cX11_cell 73 = .ok (.goto 5, 3) := by decide +kernel
theorem dX11_cell_76 : decode cX11_cell 76 = .ok (.bipush (-13), 2) := by decide +kernel
theorem dX11_cell_78 : decode cX11_cell 78 = .ok (.ireturn, 1) := by decide +kernel
theorem dX11_cell_25 : decode cX11_cell 25 = .ok (.bipush (-3), 2) := by decide +kernel
theorem dX11_cell_27 : decode cX11_cell 27 = .ok (.ireturn, 1) := by decide +kernel
def fX11_cell (F : Nat) (a0 : Nat) (a1 : Int) (a2 : Int) (a3 : Int) (a4 : Int) (a5 : Int) (h : HF) : RO :=
  zbd (fX11_refuseOperation F a0 a1 a2 h) fun r1 h =>
  if r1 = 0 then (
    zjn (fun  (h : HF) => (
      some ((-3), h)
    )) fun j25 =>
    if a3 < 0 then (
      j25  h
    ) else (
      if 2 < a3 then (
        j25  h
      ) else (
        zrs (a0 + 5) a1 fun x2 =>
        zrd h (x2 + 1) a2 fun x3 =>
        if x3 = a3 then (
          zbd (fX0_hasCell F x2 a2 a4 a5 h) fun r4 h =>
          zjn (fun (y78_0 : Int) (h : HF) => (
            some (y78_0, h)
          )) fun j78 =>
          if r4 = 0 then (
            j78 (-13) h
          ) else (
            zbd (fX0_value F x2 a2 a4 a5 h) fun r5 h =>
            j78 r5 h
          )
        ) else (
          some ((-12), h)
        )
      )
    )
  ) else (
    some (r1, h)
  )
set_option maxHeartbeats 4000000 in
set_option maxRecDepth 100000 in
theorem mX11_cell (F : Nat) (l : Launch) (g : zG) (B : Nat) (h : HF) (a0 : Nat) (a1 : Int) (a2 : Int) (a3 : Int) (a4 : Int) (a5 : Int) (ra0 : kt a0 = 14) (ra1 : rng a1) (ra2 : rng a2) (ra3 : rng a3) (ra4 : rng a4) (ra5 : rng a5) : CTi l g B yX11_cell cX11_cell 8 (some .int) 3 [.ref (B + a0), .int (ii a1), .int (ii a2), .int (ii a3), .int (ii a4), .int (ii a5)] h (fX11_cell F a0 a1 a2 a3 a4 a5 h) := by
  refine z_enterI (by decide) rfl (Nat.le_of_ble_eq_true rfl) ?_
  intro p e s m args below meth c ls o Q cx hp hl hf hQ
  have hl : lv_has ls 8 [(0, .ref (B + a0)), (1, .int (ii a1)), (2, .int (ii a2)), (3, .int (ii a3)), (4, .int (ii a4)), (5, .int (ii a5))] := hl
  unfold fX11_cell at hf
  refine lv_aload_n cx.1 cx.2.1 dX11_cell_0 rfl (lv_at hl 0 rfl) ?_
  refine lv_iload_n cx.1 cx.2.1 dX11_cell_1 rfl (lv_at hl 1 rfl) ?_
  refine lv_iload_n cx.1 cx.2.1 dX11_cell_2 rfl (lv_at hl 2 rfl) ?_
  refine z_ci cx hp (fun o' hx => zrunV (n := 3) (As := [.int (ii a1), .int (ii a2)]) (rest := []) cx hp (mX11_refuseOperation F l g B h a0 a1 a2 ra0 ra1 ra2 o' hx) 11 ra0 (by decide) rfl vw_X11_refuseOperation ml_X11_141 (by decide) rfl hl.1 rfl (Nat.le_of_ble_eq_true rfl) dX11_cell_3) hf (fun r1 h H locs rr1 hp hf => ?_)
  refine lv_istore (lv' := [(6, .int (ii r1)), (0, .ref (B + a0)), (1, .int (ii a1)), (2, .int (ii a2)), (3, .int (ii a3)), (4, .int (ii a4)), (5, .int (ii a5))]) cx.1 cx.2.1 dX11_cell_6 hl (by decide) rfl (fun ls hl => ?_)
  refine lv_iload cx.1 cx.2.1 dX11_cell_8 (lv_at hl 0 rfl) ?_
  refine z_if_eq cx rr1 (tgt := 16) dX11_cell_10 (by decide) hf (fun _ hf => ?_) (fun _ hf => ?_)
  · refine lv_iload_n cx.1 cx.2.1 dX11_cell_16 rfl (lv_at hl 4 rfl) ?_
    refine z_jn hf (fun j => ∀  (h : HF) (H : Heap) (locs : List Loc) (ls : Array Slot), Hp g B s h H locs → lv_has ls 8 [] → j  h = some o → W p l e (rmn 3) s m args below meth c H locs 0 0 Q (F0 m 25 ls [])) ?_ (fun j25 hj25 hf => ?_)
    · intro  h H locs ls  hp hl hf
      refine z_bipush cx (by decide) dX11_cell_25 ?_
      rw [hQ]; exact z_iret cx hp (by decide) dX11_cell_27 hf
    refine z_if_lt cx ra3 (tgt := 25) dX11_cell_17 (by decide) hf (fun _ hf => ?_) (fun _ hf => ?_)
    · exact hj25  h _ _ ls  hp (lv_sub hl [] rfl) hf
    · refine lv_iload_n cx.1 cx.2.1 dX11_cell_20 rfl (lv_at hl 4 rfl) ?_
      refine z_iconst cx dX11_cell_21 ?_
      refine z_icmp_le cx ra3 (by decide) (tgt := 28) dX11_cell_22 (by decide) hf (fun _ hf => ?_) (fun _ hf => ?_)
      · exact hj25  h _ _ ls  hp (lv_sub hl [] rfl) hf
      · refine lv_aload_n cx.1 cx.2.1 dX11_cell_28 rfl (lv_at hl 1 rfl) ?_
        refine z_gets cx hp (T := TX11) 11 2 (a0 + 5) rfl zin_11 (by decide) (by decide) ra0 rfl fl_X11_23 dX11_cell_29 ?_
        refine lv_iload_n cx.1 cx.2.1 dX11_cell_32 rfl (lv_at hl 2 rfl) ?_
        refine z_aald1 cx hp (zs_11_2 a0 (kt_lt ra0 (by decide)) ra0) ra1 dX11_cell_33 hf (fun x2 rx2 hf => ?_)
        refine lv_astore (lv' := [(7, .ref (B + x2)), (6, .int (ii r1)), (0, .ref (B + a0)), (1, .int (ii a1)), (2, .int (ii a2)), (3, .int (ii a3)), (4, .int (ii a4)), (5, .int (ii a5))]) cx.1 cx.2.1 dX11_cell_34 hl (by decide) rfl (fun ls hl => ?_)
        refine lv_aload cx.1 cx.2.1 dX11_cell_36 (lv_at hl 0 rfl) ?_
        refine z_gets cx hp (T := TX0) 0 3 (x2 + 1) rfl zin_0 (by decide) (by decide) rx2 rfl fl_X11_163 dX11_cell_38 ?_
        refine lv_iload_n cx.1 cx.2.1 dX11_cell_41 rfl (lv_at hl 4 rfl) ?_
        refine z_iald cx hp (zs_0_3 x2 (kt_lt rx2 (by decide)) rx2) ra2 dX11_cell_42 hf (fun x3 rx3 hf => ?_)
        refine lv_iload_n cx.1 cx.2.1 dX11_cell_43 rfl (lv_at hl 5 rfl) ?_
        refine z_icmp_eq cx rx3 ra3 (tgt := 50) dX11_cell_44 (by decide) hf (fun _ hf => ?_) (fun _ hf => ?_)
        · refine lv_aload cx.1 cx.2.1 dX11_cell_50 (lv_at hl 0 rfl) ?_
          refine lv_iload_n cx.1 cx.2.1 dX11_cell_52 rfl (lv_at hl 4 rfl) ?_
          refine lv_iload cx.1 cx.2.1 dX11_cell_53 (lv_at hl 6 rfl) ?_
          refine lv_iload cx.1 cx.2.1 dX11_cell_55 (lv_at hl 7 rfl) ?_
          refine z_ci cx hp (fun o' hx => zrunV (n := 3) (As := [.int (ii a2), .int (ii a4), .int (ii a5)]) (rest := []) cx hp (mX0_hasCell F l g B h x2 a2 a4 a5 rx2 ra2 ra4 ra5 o' hx) 0 rx2 (by decide) rfl vw_X0_hasCell ml_X11_145 (by decide) rfl hl.1 rfl (Nat.le_of_ble_eq_true rfl) dX11_cell_57) hf (fun r4 h H locs rr4 hp hf => ?_)
          refine z_jn hf (fun j => ∀ (y78_0 : Int) (h : HF) (H : Heap) (locs : List Loc) (ls : Array Slot), rng y78_0 → Hp g B s h H locs → lv_has ls 8 [] → j y78_0 h = some o → W p l e (rmn 3) s m args below meth c H locs 0 0 Q (F0 m 78 ls [.int (ii y78_0)])) ?_ (fun j78 hj78 hf => ?_)
          · intro y78_0 h H locs ls ry78_0 hp hl hf
            rw [hQ]; exact z_iret cx hp ry78_0 dX11_cell_78 hf
          refine z_if_eq cx rr4 (tgt := 76) dX11_cell_60 (by decide) hf (fun _ hf => ?_) (fun _ hf => ?_)
          · refine z_bipush cx (by decide) dX11_cell_76 ?_
            exact hj78 (-13) h _ _ ls (by decide) hp (lv_sub hl [] rfl) hf
          · refine lv_aload cx.1 cx.2.1 dX11_cell_63 (lv_at hl 0 rfl) ?_
            refine lv_iload_n cx.1 cx.2.1 dX11_cell_65 rfl (lv_at hl 4 rfl) ?_
            refine lv_iload cx.1 cx.2.1 dX11_cell_66 (lv_at hl 6 rfl) ?_
            refine lv_iload cx.1 cx.2.1 dX11_cell_68 (lv_at hl 7 rfl) ?_
            refine z_ci cx hp (fun o' hx => zrunV (n := 3) (As := [.int (ii a2), .int (ii a4), .int (ii a5)]) (rest := []) cx hp (mX0_value F l g B h x2 a2 a4 a5 rx2 ra2 ra4 ra5 o' hx) 0 rx2 (by decide) rfl vw_X0_value ml_X11_166 (by decide) rfl hl.1 rfl (Nat.le_of_ble_eq_true rfl) dX11_cell_70) hf (fun r5 h H locs rr5 hp hf => ?_)
            refine lv_goto (tgt := 78) cx.1 cx.2.1 dX11_cell_73 (by decide) ?_
            exact hj78 r5 h _ _ ls rr5 hp (lv_sub hl [] rfl) hf
        · refine z_bipush cx (by decide) dX11_cell_47 ?_
          rw [hQ]; exact z_iret cx hp (by decide) dX11_cell_49 hf
  · refine lv_iload cx.1 cx.2.1 dX11_cell_13 (lv_at hl 0 rfl) ?_
    rw [hQ]; exact z_iret cx hp rr1 dX11_cell_15 hf
theorem dX11_stamp_0 : decode cX11_stamp 0 = .ok (.aload_n 0, 1) := by decide +kernel
theorem dX11_stamp_1 : decode cX11_stamp 1 = .ok (.iload_n 1, 1) := by decide +kernel
theorem dX11_stamp_2 : decode cX11_stamp 2 = .ok (.iload_n 2, 1) := by decide +kernel
theorem dX11_stamp_3 : decode cX11_stamp 3 = .ok (.invokevirtual 169, 3) := by decide +kernel
theorem dX11_stamp_6 : decode cX11_stamp 6 = .ok (.istore 6, 2) := by decide +kernel
theorem dX11_stamp_8 : decode cX11_stamp 8 = .ok (.iload 6, 2) := by decide +kernel
theorem dX11_stamp_10 : decode cX11_stamp 10 = .ok (.ifCond .eq 6, 3) := by decide +kernel
theorem dX11_stamp_13 : decode cX11_stamp 13 = .ok (.iload 6, 2) := by decide +kernel
theorem dX11_stamp_15 : decode cX11_stamp 15 = .ok (.ireturn, 1) := by decide +kernel
theorem dX11_stamp_16 : decode cX11_stamp 16 = .ok (.aload_n 0, 1) := by decide +kernel
theorem dX11_stamp_17 : decode cX11_stamp 17 = .ok (.getfield 23, 3) := by decide +kernel
theorem dX11_stamp_20 : decode cX11_stamp 20 = .ok (.iload_n 1, 1) := by decide +kernel
theorem dX11_stamp_21 : decode cX11_stamp 21 = .ok (.aaload, 1) := by decide +kernel
theorem dX11_stamp_22 : decode cX11_stamp 22 = .ok (.astore 7, 2) := by decide +kernel
theorem dX11_stamp_24 : decode cX11_stamp 24 = .ok (.aload 7, 2) := by decide +kernel
theorem dX11_stamp_26 : decode cX11_stamp 26 = .ok (.iload_n 3, 1) := by decide +kernel
theorem dX11_stamp_27 : decode cX11_stamp 27 = .ok (.invokevirtual 149, 3) := by decide +kernel
theorem dX11_stamp_30 : decode cX11_stamp 30 = .ok (.ifCond .eq 28, 3) := by decide +kernel
theorem dX11_stamp_33 : decode cX11_stamp 33 = .ok (.aload 7, 2) := by decide +kernel
theorem dX11_stamp_35 : decode cX11_stamp 35 = .ok (.iload 4, 2) := by decide +kernel
theorem dX11_stamp_37 : decode cX11_stamp 37 = .ok (.invokevirtual 149, 3) := by decide +kernel
theorem dX11_stamp_40 : decode cX11_stamp 40 = .ok (.ifCond .eq 18, 3) := by decide +kernel
theorem dX11_stamp_43 : decode cX11_stamp 43 = .ok (.iload 5, 2) := by decide +kernel
theorem dX11_stamp_45 : decode cX11_stamp 45 = .ok (.ifCond .lt 13, 3) := by decide +kernel
theorem dX11_stamp_48 : decode cX11_stamp 48 = .ok (.iload 5, 2) := by decide +kernel
theorem dX11_stamp_50 : decode cX11_stamp 50 = .ok (.aload 7, 2) := by decide +kernel
theorem dX11_stamp_52 : decode cX11_stamp 52 = .ok (.getfield 172, 3) := by decide +kernel
theorem dX11_stamp_55 : decode cX11_stamp 55 = .ok (.if_icmp .le 6, 3) := by decide +kernel
theorem dX11_stamp_61 : decode cX11_stamp 61 = .ok (.aload_n 0, 1) := by decide +kernel
theorem dX11_stamp_62 : decode cX11_stamp 62 = .ok (.getfield 35, 3) := by decide +kernel
theorem dX11_stamp_65 : decode cX11_stamp 65 = .ok (.iload_n 1, 1) := by decide +kernel
theorem dX11_stamp_66 : decode cX11_stamp 66 = .ok (.aload 7, 2) := by decide +kernel
theorem dX11_stamp_68 : decode cX11_stamp 68 = .ok (.invokevirtual 152, 3) := by decide +kernel
theorem dX11_stamp_71 : decode cX11_stamp 71 = .ok (.iconst 0, 1) := by decide +kernel
theorem dX11_stamp_72 : decode cX11_stamp 72 = .ok (.istore 8, 2) := by decide +kernel
theorem dX11_stamp_74 : decode cX11_stamp 74 = .ok (.iload 8, 2) := by decide +kernel
theorem dX11_stamp_76 : decode cX11_stamp 76 = .ok (.iload 5, 2) := by decide +kernel
theorem dX11_stamp_78 : decode cX11_stamp 78 = .ok (.if_icmp .ge 34, 3) := by decide +kernel
theorem dX11_stamp_81 : decode cX11_stamp 81 = .ok (.aload 7, 2) := by decide +kernel
theorem dX11_stamp_83 : decode cX11_stamp 83 = .ok (.getfield 160, 3) := by decide +kernel
theorem dX11_stamp_86 : decode cX11_stamp 86 = .ok (.aload 7, 2) := by decide +kernel
theorem dX11_stamp_88 : decode cX11_stamp 88 = .ok (.iload_n 2, 1) := by decide +kernel
theorem dX11_stamp_89 : decode cX11_stamp 89 = .ok (.iload 4, 2) := by decide +kernel
theorem dX11_stamp_91 : decode cX11_stamp 91 = .ok (.iload 8, 2) := by decide +kernel
theorem dX11_stamp_93 : decode cX11_stamp 93 = .ok (.invokevirtual 156, 3) := by decide +kernel
theorem dX11_stamp_96 : decode cX11_stamp 96 = .ok (.aload 7, 2) := by decide +kernel
theorem dX11_stamp_98 : decode cX11_stamp 98 = .ok (.iload_n 2, 1) := by decide +kernel
theorem dX11_stamp_99 : decode cX11_stamp 99 = .ok (.iload_n 3, 1) := by decide +kernel
theorem dX11_stamp_100 : decode cX11_stamp 100 = .ok (.iload 8, 2) := by decide +kernel
theorem dX11_stamp_102 : decode cX11_stamp 102 = .ok (.invokevirtual 166, 3) := by decide +kernel
theorem dX11_stamp_105 : decode cX11_stamp 105 = .ok (.iastore, 1) := by decide +kernel
theorem dX11_stamp_106 : decode cX11_stamp 106 = .ok (.iinc 8 1, 3) := by decide +kernel
theorem dX11_stamp_109 : decode cX11_stamp 109 = .ok (.goto (-35), 3) := by decide +kernel
theorem dX11_stamp_112 : decode cX11_stamp 112 = .ok (.iload 5, 2) := by decide +kernel
theorem dX11_stamp_114 : decode cX11_stamp 114 = .ok (.ireturn, 1) := by decide +kernel
theorem dX11_stamp_58 : decode cX11_stamp 58 = .ok (.bipush (-13), 2) := by decide +kernel
theorem dX11_stamp_60 : decode cX11_stamp 60 = .ok (.ireturn, 1) := by decide +kernel
def LX11_stamp_74 (F : Nat) (u2 : Int) (u3 : Int) (u4 : Int) (u5 : Int) (u7 : Nat) (k112 : HF → RO) : Nat → Int → HF → RO
  | 0, _, _ => none
  | n + 1, v8, h =>
    if v8 < u5 then (
      zbd (fX0_spot F u7 u2 u4 v8 h) fun r7 h =>
      zbd (fX0_value F u7 u2 u3 v8 h) fun r8 h =>
      zwr h (u7 + 3) r7 r8 fun h =>
      zlet (wr (v8 + 1)) fun x9 =>
      LX11_stamp_74 F u2 u3 u4 u5 u7 k112 n x9 h
    ) else (
      k112  h
    )
set_option maxHeartbeats 4000000 in
set_option maxRecDepth 100000 in
theorem wX11_stamp_74 {p : Program} {l : Launch} {e : Env} {s : State} {m : MethodId} {args : Array Value} {below : List Frame} {meth : Method} {c : Code} {Q : State → Prop} {g : zG} {B : Nat} {o : Int × HF} (F : Nat) (cx : Cx p s m args meth c cX11_stamp 9 RX11 (some .int) g B) (u2 : Int) (ru2 : rng u2) (u3 : Int) (ru3 : rng u3) (u4 : Int) (ru4 : rng u4) (u5 : Int) (ru5 : rng u5) (u7 : Nat) (ru7 : kt u7 = 3) (k112 : HF → RO) (hk112 : ∀  (h : HF) (H : Heap) (locs : List Loc) (ls : Array Slot), Hp g B s h H locs → lv_has ls 9 [(5, .int (ii u5))] → k112  h = some o → W p l e (rmn 4) s m args below meth c H locs 0 0 Q (F0 m 112 ls [])) : ∀ (n : Nat) (v8 : Int) (h : HF) (H : Heap) (locs : List Loc) (ls : Array Slot), rng v8 → Hp g B s h H locs → lv_has ls 9 [(2, .int (ii u2)), (3, .int (ii u3)), (4, .int (ii u4)), (5, .int (ii u5)), (7, .ref (B + u7)), (8, .int (ii v8))] → LX11_stamp_74 F u2 u3 u4 u5 u7 k112 n v8 h = some o → W p l e (rmn 4) s m args below meth c H locs 0 0 Q (F0 m 74 ls []) := by
  intro n
  induction n with
  | zero =>
    intro v8 h H locs ls rv8 hp hl hf
    cases hf
  | succ n ih =>
    intro v8 h H locs ls rv8 hp hl hf
    rw [LX11_stamp_74] at hf
    refine lv_iload cx.1 cx.2.1 dX11_stamp_74 (lv_at hl 5 rfl) ?_
    refine lv_iload cx.1 cx.2.1 dX11_stamp_76 (lv_at hl 3 rfl) ?_
    refine z_icmp_ge cx rv8 ru5 (tgt := 112) dX11_stamp_78 (by decide) hf (fun _ hf => ?_) (fun _ hf => ?_)
    · refine lv_aload cx.1 cx.2.1 dX11_stamp_81 (lv_at hl 4 rfl) ?_
      refine z_gets cx hp (T := TX0) 0 5 (u7 + 3) rfl zin_0 (by decide) (by decide) ru7 rfl fl_X11_160 dX11_stamp_83 ?_
      refine lv_aload cx.1 cx.2.1 dX11_stamp_86 (lv_at hl 4 rfl) ?_
      refine lv_iload_n cx.1 cx.2.1 dX11_stamp_88 rfl (lv_at hl 0 rfl) ?_
      refine lv_iload cx.1 cx.2.1 dX11_stamp_89 (lv_at hl 2 rfl) ?_
      refine lv_iload cx.1 cx.2.1 dX11_stamp_91 (lv_at hl 5 rfl) ?_
      refine z_ci cx hp (fun o' hx => zrunV (n := 4) (As := [.int (ii u2), .int (ii u4), .int (ii v8)]) (rest := [.ref (B + (u7 + 3))]) cx hp (mX0_spot F l g B h u7 u2 u4 v8 ru7 ru2 ru4 rv8 o' hx) 0 ru7 (by decide) rfl vw_X0_spot ml_X11_156 (by decide) rfl hl.1 rfl (Nat.le_of_ble_eq_true rfl) dX11_stamp_93) hf (fun r7 h H locs rr7 hp hf => ?_)
      refine lv_aload cx.1 cx.2.1 dX11_stamp_96 (lv_at hl 4 rfl) ?_
      refine lv_iload_n cx.1 cx.2.1 dX11_stamp_98 rfl (lv_at hl 0 rfl) ?_
      refine lv_iload_n cx.1 cx.2.1 dX11_stamp_99 rfl (lv_at hl 1 rfl) ?_
      refine lv_iload cx.1 cx.2.1 dX11_stamp_100 (lv_at hl 5 rfl) ?_
      refine z_ci cx hp (fun o' hx => zrunV (n := 4) (As := [.int (ii u2), .int (ii u3), .int (ii v8)]) (rest := [.int (ii r7), .ref (B + (u7 + 3))]) cx hp (mX0_value F l g B h u7 u2 u3 v8 ru7 ru2 ru3 rv8 o' hx) 0 ru7 (by decide) rfl vw_X0_value ml_X11_166 (by decide) rfl hl.1 rfl (Nat.le_of_ble_eq_true rfl) dX11_stamp_102) hf (fun r8 h H locs rr8 hp hf => ?_)
      refine z_iast cx hp (zs_0_5 u7 (kt_lt ru7 (by decide)) ru7) rr7 rr8 dX11_stamp_105 hf (fun h H locs hp hf => ?_)
      refine z_iinc cx (fun x9 => [(8, .int (ii x9)), (2, .int (ii u2)), (3, .int (ii u3)), (4, .int (ii u4)), (5, .int (ii u5)), (7, .ref (B + u7))]) dX11_stamp_106 hl (k := 5) rfl (by decide) (fun _ => rfl) hf (fun x9 rx9 hf ls hl => ?_)
      refine lv_goto (tgt := 74) cx.1 cx.2.1 dX11_stamp_109 (by decide) ?_
      exact ih x9 h _ _ ls rx9 hp (lv_sub hl [1, 2, 3, 4, 5, 0] rfl) hf
    · exact hk112  h _ _ ls  hp (lv_sub hl [3] rfl) hf
def fX11_stamp (F : Nat) (a0 : Nat) (a1 : Int) (a2 : Int) (a3 : Int) (a4 : Int) (a5 : Int) (h : HF) : RO :=
  zbd (fX11_refuseBinary F a0 a1 a2 h) fun r1 h =>
  if r1 = 0 then (
    zrs (a0 + 5) a1 fun x2 =>
    zbd (fX0_hasElement F x2 a3 h) fun r3 h =>
    zjn (fun  (h : HF) => (
      some ((-13), h)
    )) fun j58 =>
    if r3 = 0 then (
      j58  h
    ) else (
      zbd (fX0_hasElement F x2 a4 h) fun r4 h =>
      if r4 = 0 then (
        j58  h
      ) else (
        if a5 < 0 then (
          j58  h
        ) else (
          zgf h x2 0 fun x5 =>
          if x5 < a5 then (
            j58  h
          ) else (
            zbd (fX3_keep F (a0 + 10) a1 x2 h) fun _ h =>
            zjn (fun  (h : HF) => (
              some (a5, h)
            )) fun j112 =>
            LX11_stamp_74 F a2 a3 a4 a5 x2 j112 F 0 h
          )
        )
      )
    )
  ) else (
    some (r1, h)
  )
set_option maxHeartbeats 4000000 in
set_option maxRecDepth 100000 in
theorem mX11_stamp (F : Nat) (l : Launch) (g : zG) (B : Nat) (h : HF) (a0 : Nat) (a1 : Int) (a2 : Int) (a3 : Int) (a4 : Int) (a5 : Int) (ra0 : kt a0 = 14) (ra1 : rng a1) (ra2 : rng a2) (ra3 : rng a3) (ra4 : rng a4) (ra5 : rng a5) : CTi l g B yX11_stamp cX11_stamp 9 (some .int) 4 [.ref (B + a0), .int (ii a1), .int (ii a2), .int (ii a3), .int (ii a4), .int (ii a5)] h (fX11_stamp F a0 a1 a2 a3 a4 a5 h) := by
  refine z_enterI (by decide) rfl (Nat.le_of_ble_eq_true rfl) ?_
  intro p e s m args below meth c ls o Q cx hp hl hf hQ
  have hl : lv_has ls 9 [(0, .ref (B + a0)), (1, .int (ii a1)), (2, .int (ii a2)), (3, .int (ii a3)), (4, .int (ii a4)), (5, .int (ii a5))] := hl
  unfold fX11_stamp at hf
  refine lv_aload_n cx.1 cx.2.1 dX11_stamp_0 rfl (lv_at hl 0 rfl) ?_
  refine lv_iload_n cx.1 cx.2.1 dX11_stamp_1 rfl (lv_at hl 1 rfl) ?_
  refine lv_iload_n cx.1 cx.2.1 dX11_stamp_2 rfl (lv_at hl 2 rfl) ?_
  refine z_ci cx hp (fun o' hx => zrunV (n := 4) (As := [.int (ii a1), .int (ii a2)]) (rest := []) cx hp (mX11_refuseBinary F l g B h a0 a1 a2 ra0 ra1 ra2 o' hx) 11 ra0 (by decide) rfl vw_X11_refuseBinary ml_X11_169 (by decide) rfl hl.1 rfl (Nat.le_of_ble_eq_true rfl) dX11_stamp_3) hf (fun r1 h H locs rr1 hp hf => ?_)
  refine lv_istore (lv' := [(6, .int (ii r1)), (0, .ref (B + a0)), (1, .int (ii a1)), (2, .int (ii a2)), (3, .int (ii a3)), (4, .int (ii a4)), (5, .int (ii a5))]) cx.1 cx.2.1 dX11_stamp_6 hl (by decide) rfl (fun ls hl => ?_)
  refine lv_iload cx.1 cx.2.1 dX11_stamp_8 (lv_at hl 0 rfl) ?_
  refine z_if_eq cx rr1 (tgt := 16) dX11_stamp_10 (by decide) hf (fun _ hf => ?_) (fun _ hf => ?_)
  · refine lv_aload_n cx.1 cx.2.1 dX11_stamp_16 rfl (lv_at hl 1 rfl) ?_
    refine z_gets cx hp (T := TX11) 11 2 (a0 + 5) rfl zin_11 (by decide) (by decide) ra0 rfl fl_X11_23 dX11_stamp_17 ?_
    refine lv_iload_n cx.1 cx.2.1 dX11_stamp_20 rfl (lv_at hl 2 rfl) ?_
    refine z_aald1 cx hp (zs_11_2 a0 (kt_lt ra0 (by decide)) ra0) ra1 dX11_stamp_21 hf (fun x2 rx2 hf => ?_)
    refine lv_astore (lv' := [(7, .ref (B + x2)), (6, .int (ii r1)), (0, .ref (B + a0)), (1, .int (ii a1)), (2, .int (ii a2)), (3, .int (ii a3)), (4, .int (ii a4)), (5, .int (ii a5))]) cx.1 cx.2.1 dX11_stamp_22 hl (by decide) rfl (fun ls hl => ?_)
    refine lv_aload cx.1 cx.2.1 dX11_stamp_24 (lv_at hl 0 rfl) ?_
    refine lv_iload_n cx.1 cx.2.1 dX11_stamp_26 rfl (lv_at hl 5 rfl) ?_
    refine z_ci cx hp (fun o' hx => zrunV (n := 4) (As := [.int (ii a3)]) (rest := []) cx hp (mX0_hasElement F l g B h x2 a3 rx2 ra3 o' hx) 0 rx2 (by decide) rfl vw_X0_hasElement ml_X11_149 (by decide) rfl hl.1 rfl (Nat.le_of_ble_eq_true rfl) dX11_stamp_27) hf (fun r3 h H locs rr3 hp hf => ?_)
    refine z_jn hf (fun j => ∀  (h : HF) (H : Heap) (locs : List Loc) (ls : Array Slot), Hp g B s h H locs → lv_has ls 9 [] → j  h = some o → W p l e (rmn 4) s m args below meth c H locs 0 0 Q (F0 m 58 ls [])) ?_ (fun j58 hj58 hf => ?_)
    · intro  h H locs ls  hp hl hf
      refine z_bipush cx (by decide) dX11_stamp_58 ?_
      rw [hQ]; exact z_iret cx hp (by decide) dX11_stamp_60 hf
    refine z_if_eq cx rr3 (tgt := 58) dX11_stamp_30 (by decide) hf (fun _ hf => ?_) (fun _ hf => ?_)
    · exact hj58  h _ _ ls  hp (lv_sub hl [] rfl) hf
    · refine lv_aload cx.1 cx.2.1 dX11_stamp_33 (lv_at hl 0 rfl) ?_
      refine lv_iload cx.1 cx.2.1 dX11_stamp_35 (lv_at hl 6 rfl) ?_
      refine z_ci cx hp (fun o' hx => zrunV (n := 4) (As := [.int (ii a4)]) (rest := []) cx hp (mX0_hasElement F l g B h x2 a4 rx2 ra4 o' hx) 0 rx2 (by decide) rfl vw_X0_hasElement ml_X11_149 (by decide) rfl hl.1 rfl (Nat.le_of_ble_eq_true rfl) dX11_stamp_37) hf (fun r4 h H locs rr4 hp hf => ?_)
      refine z_if_eq cx rr4 (tgt := 58) dX11_stamp_40 (by decide) hf (fun _ hf => ?_) (fun _ hf => ?_)
      · exact hj58  h _ _ ls  hp (lv_sub hl [] rfl) hf
      · refine lv_iload cx.1 cx.2.1 dX11_stamp_43 (lv_at hl 7 rfl) ?_
        refine z_if_lt cx ra5 (tgt := 58) dX11_stamp_45 (by decide) hf (fun _ hf => ?_) (fun _ hf => ?_)
        · exact hj58  h _ _ ls  hp (lv_sub hl [] rfl) hf
        · refine lv_iload cx.1 cx.2.1 dX11_stamp_48 (lv_at hl 7 rfl) ?_
          refine lv_aload cx.1 cx.2.1 dX11_stamp_50 (lv_at hl 0 rfl) ?_
          refine z_geti cx hp (T := TX0) 0 0 rfl zin_0 (by decide) (by decide) rx2 rfl fl_X11_172 dX11_stamp_52 hf (fun x5 rx5 hf => ?_)
          refine z_icmp_le cx ra5 rx5 (tgt := 61) dX11_stamp_55 (by decide) hf (fun _ hf => ?_) (fun _ hf => ?_)
          · exact hj58  h _ _ ls  hp (lv_sub hl [] rfl) hf
          · refine lv_aload_n cx.1 cx.2.1 dX11_stamp_61 rfl (lv_at hl 2 rfl) ?_
            refine z_gets cx hp (T := TX11) 11 4 (a0 + 10) rfl zin_11 (by decide) (by decide) ra0 rfl fl_X11_35 dX11_stamp_62 ?_
            refine lv_iload_n cx.1 cx.2.1 dX11_stamp_65 rfl (lv_at hl 3 rfl) ?_
            refine lv_aload cx.1 cx.2.1 dX11_stamp_66 (lv_at hl 0 rfl) ?_
            refine z_cv cx hp (fun o' hx => zrunV (n := 4) (As := [.int (ii a1), .ref (B + x2)]) (rest := []) cx hp (mX3_keep F l g B h (a0 + 10) a1 x2 (zs_11_4 a0 (kt_lt ra0 (by decide)) ra0) ra1 rx2 o' hx) 3 (zs_11_4 a0 (kt_lt ra0 (by decide)) ra0) (by decide) rfl vw_X3_keep ml_X11_152 (by decide) rfl hl.1 rfl (Nat.le_of_ble_eq_true rfl) dX11_stamp_68) hf (fun _ h H locs hp hf => ?_)
            refine z_iconst cx dX11_stamp_71 ?_
            refine lv_istore (lv' := [(8, .int (ii 0)), (7, .ref (B + x2)), (6, .int (ii r1)), (0, .ref (B + a0)), (1, .int (ii a1)), (2, .int (ii a2)), (3, .int (ii a3)), (4, .int (ii a4)), (5, .int (ii a5))]) cx.1 cx.2.1 dX11_stamp_72 hl (by decide) rfl (fun ls hl => ?_)
            refine z_jn hf (fun j => ∀  (h : HF) (H : Heap) (locs : List Loc) (ls : Array Slot), Hp g B s h H locs → lv_has ls 9 [(5, .int (ii a5))] → j  h = some o → W p l e (rmn 4) s m args below meth c H locs 0 0 Q (F0 m 112 ls [])) ?_ (fun j112 hj112 hf => ?_)
            · intro  h H locs ls  hp hl hf
              refine lv_iload cx.1 cx.2.1 dX11_stamp_112 (lv_at hl 0 rfl) ?_
              rw [hQ]; exact z_iret cx hp ra5 dX11_stamp_114 hf
            exact wX11_stamp_74 F cx a2 ra2 a3 ra3 a4 ra4 a5 ra5 x2 rx2 j112 hj112 F 0 h _ _ ls (by decide) hp (lv_sub hl [5, 6, 7, 8, 1, 0] rfl) hf
  · refine lv_iload cx.1 cx.2.1 dX11_stamp_13 (lv_at hl 0 rfl) ?_
    rw [hQ]; exact z_iret cx hp rr1 dX11_stamp_15 hf
theorem dX11_about_0 : decode cX11_about 0 = .ok (.aload_n 0, 1) := by decide +kernel
theorem dX11_about_1 : decode cX11_about 1 = .ok (.iload_n 1, 1) := by decide +kernel
theorem dX11_about_2 : decode cX11_about 2 = .ok (.invokevirtual 175, 3) := by decide +kernel
theorem dX11_about_5 : decode cX11_about 5 = .ok (.istore_n 3, 1) := by decide +kernel
theorem dX11_about_6 : decode cX11_about 6 = .ok (.iload_n 3, 1) := by decide +kernel
theorem dX11_about_7 : decode cX11_about 7 = .ok (.ifCond .eq 5, 3) := by decide +kernel
theorem dX11_about_10 : decode cX11_about 10 = .ok (.iload_n 3, 1) := by decide +kernel
theorem dX11_about_11 : decode cX11_about 11 = .ok (.ireturn, 1) := by decide +kernel
theorem dX11_about_12 : decode cX11_about 12 = .ok (.aload_n 0, 1) := by decide +kernel
theorem dX11_about_13 : decode cX11_about 13 = .ok (.getfield 23, 3) := by decide +kernel
theorem dX11_about_16 : decode cX11_about 16 = .ok (.iload_n 1, 1) := by decide +kernel
theorem dX11_about_17 : decode cX11_about 17 = .ok (.aaload, 1) := by decide +kernel
theorem dX11_about_18 : decode cX11_about 18 = .ok (.astore 4, 2) := by decide +kernel
theorem dX11_about_20 : decode cX11_about 20 = .ok (.iload_n 2, 1) := by decide +kernel
theorem dX11_about_21 : decode cX11_about 21 = .ok (.tableswitch 55 0 3 #[31, 37, 43, 49], 31) := by decide +kernel
theorem dX11_about_76 : decode cX11_about 76 = .ok (.bipush (-3), 2) := by decide +kernel
theorem dX11_about_78 : decode cX11_about 78 = .ok (.ireturn, 1) := by decide +kernel
theorem dX11_about_70 : decode cX11_about 70 = .ok (.aload 4, 2) := by decide +kernel
theorem dX11_about_72 : decode cX11_about 72 = .ok (.invokevirtual 181, 3) := by decide +kernel
theorem dX11_about_75 : decode cX11_about 75 = .ok (.ireturn, 1) := by decide +kernel
theorem dX11_about_64 : decode cX11_about 64 = .ok (.aload 4, 2) := by decide +kernel
theorem dX11_about_66 : decode cX11_about 66 = .ok (.invokevirtual 137, 3) := by decide +kernel
theorem dX11_about_69 : decode cX11_about 69 = .ok (.ireturn, 1) := by decide +kernel
theorem dX11_about_58 : decode cX11_about 58 = .ok (.aload 4, 2) := by decide +kernel
theorem dX11_about_60 : decode cX11_about 60 = .ok (.getfield 178, 3) := by decide +kernel
theorem dX11_about_63 : decode cX11_about 63 = .ok (.ireturn, 1) := by decide +kernel
theorem dX11_about_52 : decode cX11_about 52 = .ok (.aload 4, 2) := by decide +kernel
theorem dX11_about_54 : decode cX11_about 54 = .ok (.getfield 172, 3) := by decide +kernel
theorem dX11_about_57 : decode cX11_about 57 = .ok (.ireturn, 1) := by decide +kernel
def fX11_about (F : Nat) (a0 : Nat) (a1 : Int) (a2 : Int) (h : HF) : RO :=
  zbd (fX11_refuseDrawer F a0 a1 h) fun r1 h =>
  if r1 = 0 then (
    zrs (a0 + 5) a1 fun x2 =>
    if a2 = 0 then (
      zgf h x2 0 fun x4 =>
      some (x4, h)
    ) else (
    if a2 = 1 then (
      zgf h x2 2 fun x6 =>
      some (x6, h)
    ) else (
    if a2 = 2 then (
      zbd (fX0_cellCount F x2 h) fun r8 h =>
      some (r8, h)
    ) else (
    if a2 = 3 then (
      zbd (fX0_otherThanZero F x2 h) fun r10 h =>
      some (r10, h)
    ) else (
      some ((-3), h)
    )
    )
    )
    )
  ) else (
    some (r1, h)
  )
set_option maxHeartbeats 4000000 in
set_option maxRecDepth 100000 in
theorem mX11_about (F : Nat) (l : Launch) (g : zG) (B : Nat) (h : HF) (a0 : Nat) (a1 : Int) (a2 : Int) (ra0 : kt a0 = 14) (ra1 : rng a1) (ra2 : rng a2) : CTi l g B yX11_about cX11_about 5 (some .int) 2 [.ref (B + a0), .int (ii a1), .int (ii a2)] h (fX11_about F a0 a1 a2 h) := by
  refine z_enterI (by decide) rfl (Nat.le_of_ble_eq_true rfl) ?_
  intro p e s m args below meth c ls o Q cx hp hl hf hQ
  have hl : lv_has ls 5 [(0, .ref (B + a0)), (1, .int (ii a1)), (2, .int (ii a2))] := hl
  unfold fX11_about at hf
  refine lv_aload_n cx.1 cx.2.1 dX11_about_0 rfl (lv_at hl 0 rfl) ?_
  refine lv_iload_n cx.1 cx.2.1 dX11_about_1 rfl (lv_at hl 1 rfl) ?_
  refine z_ci cx hp (fun o' hx => zrunV (n := 2) (As := [.int (ii a1)]) (rest := []) cx hp (mX11_refuseDrawer F l g B h a0 a1 ra0 ra1 o' hx) 11 ra0 (by decide) rfl vw_X11_refuseDrawer ml_X11_175 (by decide) rfl hl.1 rfl (Nat.le_of_ble_eq_true rfl) dX11_about_2) hf (fun r1 h H locs rr1 hp hf => ?_)
  refine lv_istore_n (lv' := [(3, .int (ii r1)), (0, .ref (B + a0)), (1, .int (ii a1)), (2, .int (ii a2))]) cx.1 cx.2.1 dX11_about_5 rfl hl (by decide) rfl (fun ls hl => ?_)
  refine lv_iload_n cx.1 cx.2.1 dX11_about_6 rfl (lv_at hl 0 rfl) ?_
  refine z_if_eq cx rr1 (tgt := 12) dX11_about_7 (by decide) hf (fun _ hf => ?_) (fun _ hf => ?_)
  · refine lv_aload_n cx.1 cx.2.1 dX11_about_12 rfl (lv_at hl 1 rfl) ?_
    refine z_gets cx hp (T := TX11) 11 2 (a0 + 5) rfl zin_11 (by decide) (by decide) ra0 rfl fl_X11_23 dX11_about_13 ?_
    refine lv_iload_n cx.1 cx.2.1 dX11_about_16 rfl (lv_at hl 2 rfl) ?_
    refine z_aald1 cx hp (zs_11_2 a0 (kt_lt ra0 (by decide)) ra0) ra1 dX11_about_17 hf (fun x2 rx2 hf => ?_)
    refine lv_astore (lv' := [(4, .ref (B + x2)), (3, .int (ii r1)), (0, .ref (B + a0)), (1, .int (ii a1)), (2, .int (ii a2))]) cx.1 cx.2.1 dX11_about_18 hl (by decide) rfl (fun ls hl => ?_)
    refine lv_iload_n cx.1 cx.2.1 dX11_about_20 rfl (lv_at hl 4 rfl) ?_
    refine ite_inv hf (fun c3 hf => ?_) (fun c3 hf => ?_)
    · refine lv_tableIn (off := 31) (tgt := 52) cx.1 cx.2.1 dX11_about_21 (by rw [c3]; decide) (by rw [c3]; decide) (by rw [c3]; rfl) (by decide) ?_
      refine lv_aload cx.1 cx.2.1 dX11_about_52 (lv_at hl 0 rfl) ?_
      refine z_geti cx hp (T := TX0) 0 0 rfl zin_0 (by decide) (by decide) rx2 rfl fl_X11_172 dX11_about_54 hf (fun x4 rx4 hf => ?_)
      rw [hQ]; exact z_iret cx hp rx4 dX11_about_57 hf
    · refine ite_inv hf (fun c5 hf => ?_) (fun c5 hf => ?_)
      · refine lv_tableIn (off := 37) (tgt := 58) cx.1 cx.2.1 dX11_about_21 (by rw [c5]; decide) (by rw [c5]; decide) (by rw [c5]; rfl) (by decide) ?_
        refine lv_aload cx.1 cx.2.1 dX11_about_58 (lv_at hl 0 rfl) ?_
        refine z_geti cx hp (T := TX0) 0 2 rfl zin_0 (by decide) (by decide) rx2 rfl fl_X11_178 dX11_about_60 hf (fun x6 rx6 hf => ?_)
        rw [hQ]; exact z_iret cx hp rx6 dX11_about_63 hf
      · refine ite_inv hf (fun c7 hf => ?_) (fun c7 hf => ?_)
        · refine lv_tableIn (off := 43) (tgt := 64) cx.1 cx.2.1 dX11_about_21 (by rw [c7]; decide) (by rw [c7]; decide) (by rw [c7]; rfl) (by decide) ?_
          refine lv_aload cx.1 cx.2.1 dX11_about_64 (lv_at hl 0 rfl) ?_
          refine z_ci cx hp (fun o' hx => zrunV (n := 2) (As := []) (rest := []) cx hp (mX0_cellCount F l g B h x2 rx2 o' hx) 0 rx2 (by decide) rfl vw_X0_cellCount ml_X11_137 (by decide) rfl hl.1 rfl (Nat.le_of_ble_eq_true rfl) dX11_about_66) hf (fun r8 h H locs rr8 hp hf => ?_)
          rw [hQ]; exact z_iret cx hp rr8 dX11_about_69 hf
        · refine ite_inv hf (fun c9 hf => ?_) (fun c9 hf => ?_)
          · refine lv_tableIn (off := 49) (tgt := 70) cx.1 cx.2.1 dX11_about_21 (by rw [c9]; decide) (by rw [c9]; decide) (by rw [c9]; rfl) (by decide) ?_
            refine lv_aload cx.1 cx.2.1 dX11_about_70 (lv_at hl 0 rfl) ?_
            refine z_ci cx hp (fun o' hx => zrunV (n := 2) (As := []) (rest := []) cx hp (mX0_otherThanZero F l g B h x2 rx2 o' hx) 0 rx2 (by decide) rfl vw_X0_otherThanZero ml_X11_181 (by decide) rfl hl.1 rfl (Nat.le_of_ble_eq_true rfl) dX11_about_72) hf (fun r10 h H locs rr10 hp hf => ?_)
            rw [hQ]; exact z_iret cx hp rr10 dX11_about_75 hf
          · refine lv_tableOut (tgt := 76) cx.1 cx.2.1 dX11_about_21 (by rw [ii_ti ra2]; omega) (by decide) ?_
            refine z_bipush cx (by decide) dX11_about_76 ?_
            rw [hQ]; exact z_iret cx hp (by decide) dX11_about_78 hf
  · refine lv_iload_n cx.1 cx.2.1 dX11_about_10 rfl (lv_at hl 0 rfl) ?_
    rw [hQ]; exact z_iret cx hp rr1 dX11_about_11 hf
theorem dX11_drop_0 : decode cX11_drop 0 = .ok (.aload_n 0, 1) := by decide +kernel
theorem dX11_drop_1 : decode cX11_drop 1 = .ok (.iload_n 1, 1) := by decide +kernel
theorem dX11_drop_2 : decode cX11_drop 2 = .ok (.invokevirtual 175, 3) := by decide +kernel
theorem dX11_drop_5 : decode cX11_drop 5 = .ok (.istore_n 2, 1) := by decide +kernel
theorem dX11_drop_6 : decode cX11_drop 6 = .ok (.iload_n 2, 1) := by decide +kernel
theorem dX11_drop_7 : decode cX11_drop 7 = .ok (.ifCond .eq 5, 3) := by decide +kernel
theorem dX11_drop_10 : decode cX11_drop 10 = .ok (.iload_n 2, 1) := by decide +kernel
theorem dX11_drop_11 : decode cX11_drop 11 = .ok (.ireturn, 1) := by decide +kernel
theorem dX11_drop_12 : decode cX11_drop 12 = .ok (.aload_n 0, 1) := by decide +kernel
theorem dX11_drop_13 : decode cX11_drop 13 = .ok (.getfield 35, 3) := by decide +kernel
theorem dX11_drop_16 : decode cX11_drop 16 = .ok (.iload_n 1, 1) := by decide +kernel
theorem dX11_drop_17 : decode cX11_drop 17 = .ok (.aload_n 0, 1) := by decide +kernel
theorem dX11_drop_18 : decode cX11_drop 18 = .ok (.getfield 23, 3) := by decide +kernel
theorem dX11_drop_21 : decode cX11_drop 21 = .ok (.iload_n 1, 1) := by decide +kernel
theorem dX11_drop_22 : decode cX11_drop 22 = .ok (.aaload, 1) := by decide +kernel
theorem dX11_drop_23 : decode cX11_drop 23 = .ok (.invokevirtual 152, 3) := by decide +kernel
theorem dX11_drop_26 : decode cX11_drop 26 = .ok (.aload_n 0, 1) := by decide +kernel
theorem dX11_drop_27 : decode cX11_drop 27 = .ok (.getfield 23, 3) := by decide +kernel
theorem dX11_drop_30 : decode cX11_drop 30 = .ok (.iload_n 1, 1) := by decide +kernel
theorem dX11_drop_31 : decode cX11_drop 31 = .ok (.aaload, 1) := by decide +kernel
theorem dX11_drop_32 : decode cX11_drop 32 = .ok (.invokevirtual 184, 3) := by decide +kernel
theorem dX11_drop_35 : decode cX11_drop 35 = .ok (.iconst 1, 1) := by decide +kernel
theorem dX11_drop_36 : decode cX11_drop 36 = .ok (.ireturn, 1) := by decide +kernel
def fX11_drop (F : Nat) (a0 : Nat) (a1 : Int) (h : HF) : RO :=
  zbd (fX11_refuseDrawer F a0 a1 h) fun r1 h =>
  if r1 = 0 then (
    zrs (a0 + 5) a1 fun x2 =>
    zbd (fX3_keep F (a0 + 10) a1 x2 h) fun _ h =>
    zrs (a0 + 5) a1 fun x4 =>
    zbd (fX0_empty F x4 h) fun _ h =>
    some (1, h)
  ) else (
    some (r1, h)
  )
set_option maxHeartbeats 4000000 in
set_option maxRecDepth 100000 in
theorem mX11_drop (F : Nat) (l : Launch) (g : zG) (B : Nat) (h : HF) (a0 : Nat) (a1 : Int) (ra0 : kt a0 = 14) (ra1 : rng a1) : CTi l g B yX11_drop cX11_drop 3 (some .int) 3 [.ref (B + a0), .int (ii a1)] h (fX11_drop F a0 a1 h) := by
  refine z_enterI (by decide) rfl (Nat.le_of_ble_eq_true rfl) ?_
  intro p e s m args below meth c ls o Q cx hp hl hf hQ
  have hl : lv_has ls 3 [(0, .ref (B + a0)), (1, .int (ii a1))] := hl
  unfold fX11_drop at hf
  refine lv_aload_n cx.1 cx.2.1 dX11_drop_0 rfl (lv_at hl 0 rfl) ?_
  refine lv_iload_n cx.1 cx.2.1 dX11_drop_1 rfl (lv_at hl 1 rfl) ?_
  refine z_ci cx hp (fun o' hx => zrunV (n := 3) (As := [.int (ii a1)]) (rest := []) cx hp (mX11_refuseDrawer F l g B h a0 a1 ra0 ra1 o' hx) 11 ra0 (by decide) rfl vw_X11_refuseDrawer ml_X11_175 (by decide) rfl hl.1 rfl (Nat.le_of_ble_eq_true rfl) dX11_drop_2) hf (fun r1 h H locs rr1 hp hf => ?_)
  refine lv_istore_n (lv' := [(2, .int (ii r1)), (0, .ref (B + a0)), (1, .int (ii a1))]) cx.1 cx.2.1 dX11_drop_5 rfl hl (by decide) rfl (fun ls hl => ?_)
  refine lv_iload_n cx.1 cx.2.1 dX11_drop_6 rfl (lv_at hl 0 rfl) ?_
  refine z_if_eq cx rr1 (tgt := 12) dX11_drop_7 (by decide) hf (fun _ hf => ?_) (fun _ hf => ?_)
  · refine lv_aload_n cx.1 cx.2.1 dX11_drop_12 rfl (lv_at hl 1 rfl) ?_
    refine z_gets cx hp (T := TX11) 11 4 (a0 + 10) rfl zin_11 (by decide) (by decide) ra0 rfl fl_X11_35 dX11_drop_13 ?_
    refine lv_iload_n cx.1 cx.2.1 dX11_drop_16 rfl (lv_at hl 2 rfl) ?_
    refine lv_aload_n cx.1 cx.2.1 dX11_drop_17 rfl (lv_at hl 1 rfl) ?_
    refine z_gets cx hp (T := TX11) 11 2 (a0 + 5) rfl zin_11 (by decide) (by decide) ra0 rfl fl_X11_23 dX11_drop_18 ?_
    refine lv_iload_n cx.1 cx.2.1 dX11_drop_21 rfl (lv_at hl 2 rfl) ?_
    refine z_aald1 cx hp (zs_11_2 a0 (kt_lt ra0 (by decide)) ra0) ra1 dX11_drop_22 hf (fun x2 rx2 hf => ?_)
    refine z_cv cx hp (fun o' hx => zrunV (n := 3) (As := [.int (ii a1), .ref (B + x2)]) (rest := []) cx hp (mX3_keep F l g B h (a0 + 10) a1 x2 (zs_11_4 a0 (kt_lt ra0 (by decide)) ra0) ra1 rx2 o' hx) 3 (zs_11_4 a0 (kt_lt ra0 (by decide)) ra0) (by decide) rfl vw_X3_keep ml_X11_152 (by decide) rfl hl.1 rfl (Nat.le_of_ble_eq_true rfl) dX11_drop_23) hf (fun _ h H locs hp hf => ?_)
    refine lv_aload_n cx.1 cx.2.1 dX11_drop_26 rfl (lv_at hl 1 rfl) ?_
    refine z_gets cx hp (T := TX11) 11 2 (a0 + 5) rfl zin_11 (by decide) (by decide) ra0 rfl fl_X11_23 dX11_drop_27 ?_
    refine lv_iload_n cx.1 cx.2.1 dX11_drop_30 rfl (lv_at hl 2 rfl) ?_
    refine z_aald1 cx hp (zs_11_2 a0 (kt_lt ra0 (by decide)) ra0) ra1 dX11_drop_31 hf (fun x4 rx4 hf => ?_)
    refine z_cv cx hp (fun o' hx => zrunV (n := 3) (As := []) (rest := []) cx hp (mX0_empty F l g B h x4 rx4 o' hx) 0 rx4 (by decide) rfl vw_X0_empty ml_X11_184 (by decide) rfl hl.1 rfl (Nat.le_of_ble_eq_true rfl) dX11_drop_32) hf (fun _ h H locs hp hf => ?_)
    refine z_iconst cx dX11_drop_35 ?_
    rw [hQ]; exact z_iret cx hp (by decide) dX11_drop_36 hf
  · refine lv_iload_n cx.1 cx.2.1 dX11_drop_10 rfl (lv_at hl 0 rfl) ?_
    rw [hQ]; exact z_iret cx hp rr1 dX11_drop_11 hf
theorem dX11_tell_0 : decode cX11_tell 0 = .ok (.aload_n 0, 1) := by decide +kernel
theorem dX11_tell_1 : decode cX11_tell 1 = .ok (.iload_n 1, 1) := by decide +kernel
theorem dX11_tell_2 : decode cX11_tell 2 = .ok (.invokevirtual 175, 3) := by decide +kernel
theorem dX11_tell_5 : decode cX11_tell 5 = .ok (.istore_n 2, 1) := by decide +kernel
theorem dX11_tell_6 : decode cX11_tell 6 = .ok (.iload_n 2, 1) := by decide +kernel
theorem dX11_tell_7 : decode cX11_tell 7 = .ok (.ifCond .eq 5, 3) := by decide +kernel
theorem dX11_tell_10 : decode cX11_tell 10 = .ok (.iload_n 2, 1) := by decide +kernel
theorem dX11_tell_11 : decode cX11_tell 11 = .ok (.ireturn, 1) := by decide +kernel
theorem dX11_tell_12 : decode cX11_tell 12 = .ok (.aload_n 0, 1) := by decide +kernel
theorem dX11_tell_13 : decode cX11_tell 13 = .ok (.getfield 23, 3) := by decide +kernel
theorem dX11_tell_16 : decode cX11_tell 16 = .ok (.iload_n 1, 1) := by decide +kernel
theorem dX11_tell_17 : decode cX11_tell 17 = .ok (.aaload, 1) := by decide +kernel
theorem dX11_tell_18 : decode cX11_tell 18 = .ok (.aload_n 0, 1) := by decide +kernel
theorem dX11_tell_19 : decode cX11_tell 19 = .ok (.getfield 18, 3) := by decide +kernel
theorem dX11_tell_22 : decode cX11_tell 22 = .ok (.invokevirtual 187, 3) := by decide +kernel
theorem dX11_tell_25 : decode cX11_tell 25 = .ok (.aload_n 0, 1) := by decide +kernel
theorem dX11_tell_26 : decode cX11_tell 26 = .ok (.getfield 18, 3) := by decide +kernel
theorem dX11_tell_29 : decode cX11_tell 29 = .ok (.getfield 115, 3) := by decide +kernel
theorem dX11_tell_32 : decode cX11_tell 32 = .ok (.ireturn, 1) := by decide +kernel
def fX11_tell (F : Nat) (a0 : Nat) (a1 : Int) (h : HF) : RO :=
  zbd (fX11_refuseDrawer F a0 a1 h) fun r1 h =>
  if r1 = 0 then (
    zrs (a0 + 5) a1 fun x2 =>
    zbd (fX0_write F x2 (a0 + 3) h) fun _ h =>
    zgf h (a0 + 3) 1 fun x4 =>
    some (x4, h)
  ) else (
    some (r1, h)
  )
set_option maxHeartbeats 4000000 in
set_option maxRecDepth 100000 in
theorem mX11_tell (F : Nat) (l : Launch) (g : zG) (B : Nat) (h : HF) (a0 : Nat) (a1 : Int) (ra0 : kt a0 = 14) (ra1 : rng a1) : CTi l g B yX11_tell cX11_tell 3 (some .int) 3 [.ref (B + a0), .int (ii a1)] h (fX11_tell F a0 a1 h) := by
  refine z_enterI (by decide) rfl (Nat.le_of_ble_eq_true rfl) ?_
  intro p e s m args below meth c ls o Q cx hp hl hf hQ
  have hl : lv_has ls 3 [(0, .ref (B + a0)), (1, .int (ii a1))] := hl
  unfold fX11_tell at hf
  refine lv_aload_n cx.1 cx.2.1 dX11_tell_0 rfl (lv_at hl 0 rfl) ?_
  refine lv_iload_n cx.1 cx.2.1 dX11_tell_1 rfl (lv_at hl 1 rfl) ?_
  refine z_ci cx hp (fun o' hx => zrunV (n := 3) (As := [.int (ii a1)]) (rest := []) cx hp (mX11_refuseDrawer F l g B h a0 a1 ra0 ra1 o' hx) 11 ra0 (by decide) rfl vw_X11_refuseDrawer ml_X11_175 (by decide) rfl hl.1 rfl (Nat.le_of_ble_eq_true rfl) dX11_tell_2) hf (fun r1 h H locs rr1 hp hf => ?_)
  refine lv_istore_n (lv' := [(2, .int (ii r1)), (0, .ref (B + a0)), (1, .int (ii a1))]) cx.1 cx.2.1 dX11_tell_5 rfl hl (by decide) rfl (fun ls hl => ?_)
  refine lv_iload_n cx.1 cx.2.1 dX11_tell_6 rfl (lv_at hl 0 rfl) ?_
  refine z_if_eq cx rr1 (tgt := 12) dX11_tell_7 (by decide) hf (fun _ hf => ?_) (fun _ hf => ?_)
  · refine lv_aload_n cx.1 cx.2.1 dX11_tell_12 rfl (lv_at hl 1 rfl) ?_
    refine z_gets cx hp (T := TX11) 11 2 (a0 + 5) rfl zin_11 (by decide) (by decide) ra0 rfl fl_X11_23 dX11_tell_13 ?_
    refine lv_iload_n cx.1 cx.2.1 dX11_tell_16 rfl (lv_at hl 2 rfl) ?_
    refine z_aald1 cx hp (zs_11_2 a0 (kt_lt ra0 (by decide)) ra0) ra1 dX11_tell_17 hf (fun x2 rx2 hf => ?_)
    refine lv_aload_n cx.1 cx.2.1 dX11_tell_18 rfl (lv_at hl 1 rfl) ?_
    refine z_gets cx hp (T := TX11) 11 1 (a0 + 3) rfl zin_11 (by decide) (by decide) ra0 rfl fl_X11_18 dX11_tell_19 ?_
    refine z_cv cx hp (fun o' hx => zrunV (n := 3) (As := [.ref (B + (a0 + 3))]) (rest := []) cx hp (mX0_write F l g B h x2 (a0 + 3) rx2 (zs_11_1 a0 (kt_lt ra0 (by decide)) ra0) o' hx) 0 rx2 (by decide) rfl vw_X0_write ml_X11_187 (by decide) rfl hl.1 rfl (Nat.le_of_ble_eq_true rfl) dX11_tell_22) hf (fun _ h H locs hp hf => ?_)
    refine lv_aload_n cx.1 cx.2.1 dX11_tell_25 rfl (lv_at hl 1 rfl) ?_
    refine z_gets cx hp (T := TX11) 11 1 (a0 + 3) rfl zin_11 (by decide) (by decide) ra0 rfl fl_X11_18 dX11_tell_26 ?_
    refine z_geti cx hp (T := TX1) 1 1 rfl zin_1 (by decide) (by decide) (zs_11_1 a0 (kt_lt ra0 (by decide)) ra0) rfl fl_X11_115 dX11_tell_29 hf (fun x4 rx4 hf => ?_)
    rw [hQ]; exact z_iret cx hp rx4 dX11_tell_32 hf
  · refine lv_iload_n cx.1 cx.2.1 dX11_tell_10 rfl (lv_at hl 0 rfl) ?_
    rw [hQ]; exact z_iret cx hp rr1 dX11_tell_11 hf
theorem dX11_undo_0 : decode cX11_undo 0 = .ok (.aload_n 0, 1) := by decide +kernel
theorem dX11_undo_1 : decode cX11_undo 1 = .ok (.getfield 35, 3) := by decide +kernel
theorem dX11_undo_4 : decode cX11_undo 4 = .ok (.aload_n 0, 1) := by decide +kernel
theorem dX11_undo_5 : decode cX11_undo 5 = .ok (.getfield 23, 3) := by decide +kernel
theorem dX11_undo_8 : decode cX11_undo 8 = .ok (.invokevirtual 204, 3) := by decide +kernel
theorem dX11_undo_11 : decode cX11_undo 11 = .ok (.ireturn, 1) := by decide +kernel
def fX11_undo (F : Nat) (a0 : Nat) (h : HF) : RO :=
  zbd (fX3_takeBack F (a0 + 10) (a0 + 5) h) fun r1 h =>
  some (r1, h)
set_option maxHeartbeats 4000000 in
set_option maxRecDepth 100000 in
theorem mX11_undo (F : Nat) (l : Launch) (g : zG) (B : Nat) (h : HF) (a0 : Nat) (ra0 : kt a0 = 14) : CTi l g B yX11_undo cX11_undo 1 (some .int) 3 [.ref (B + a0)] h (fX11_undo F a0 h) := by
  refine z_enterI (by decide) rfl (Nat.le_of_ble_eq_true rfl) ?_
  intro p e s m args below meth c ls o Q cx hp hl hf hQ
  have hl : lv_has ls 1 [(0, .ref (B + a0))] := hl
  unfold fX11_undo at hf
  refine lv_aload_n cx.1 cx.2.1 dX11_undo_0 rfl (lv_at hl 0 rfl) ?_
  refine z_gets cx hp (T := TX11) 11 4 (a0 + 10) rfl zin_11 (by decide) (by decide) ra0 rfl fl_X11_35 dX11_undo_1 ?_
  refine lv_aload_n cx.1 cx.2.1 dX11_undo_4 rfl (lv_at hl 0 rfl) ?_
  refine z_gets cx hp (T := TX11) 11 2 (a0 + 5) rfl zin_11 (by decide) (by decide) ra0 rfl fl_X11_23 dX11_undo_5 ?_
  refine z_ci cx hp (fun o' hx => zrunV (n := 3) (As := [.ref (B + (a0 + 5))]) (rest := []) cx hp (mX3_takeBack F l g B h (a0 + 10) (a0 + 5) (zs_11_4 a0 (kt_lt ra0 (by decide)) ra0) (zs_11_2 a0 (kt_lt ra0 (by decide)) ra0) o' hx) 3 (zs_11_4 a0 (kt_lt ra0 (by decide)) ra0) (by decide) rfl vw_X3_takeBack ml_X11_204 (by decide) rfl hl.1 rfl (Nat.le_of_ble_eq_true rfl) dX11_undo_8) hf (fun r1 h H locs rr1 hp hf => ?_)
  rw [hQ]; exact z_iret cx hp rr1 dX11_undo_11 hf
theorem dX11_powers_0 : decode cX11_powers 0 = .ok (.aload_n 0, 1) := by decide +kernel
theorem dX11_powers_1 : decode cX11_powers 1 = .ok (.iload_n 1, 1) := by decide +kernel
theorem dX11_powers_2 : decode cX11_powers 2 = .ok (.iload_n 2, 1) := by decide +kernel
theorem dX11_powers_3 : decode cX11_powers 3 = .ok (.invokevirtual 141, 3) := by decide +kernel
theorem dX11_powers_6 : decode cX11_powers 6 = .ok (.istore 4, 2) := by decide +kernel
theorem dX11_powers_8 : decode cX11_powers 8 = .ok (.iload 4, 2) := by decide +kernel
theorem dX11_powers_10 : decode cX11_powers 10 = .ok (.ifCond .eq 6, 3) := by decide +kernel
theorem dX11_powers_13 : decode cX11_powers 13 = .ok (.iload 4, 2) := by decide +kernel
theorem dX11_powers_15 : decode cX11_powers 15 = .ok (.ireturn, 1) := by decide +kernel
theorem dX11_powers_16 : decode cX11_powers 16 = .ok (.aload_n 0, 1) := by decide +kernel
theorem dX11_powers_17 : decode cX11_powers 17 = .ok (.getfield 23, 3) := by decide +kernel
theorem dX11_powers_20 : decode cX11_powers 20 = .ok (.iload_n 1, 1) := by decide +kernel
theorem dX11_powers_21 : decode cX11_powers 21 = .ok (.aaload, 1) := by decide +kernel
theorem dX11_powers_22 : decode cX11_powers 22 = .ok (.astore 5, 2) := by decide +kernel
theorem dX11_powers_24 : decode cX11_powers 24 = .ok (.aload 5, 2) := by decide +kernel
theorem dX11_powers_26 : decode cX11_powers 26 = .ok (.iload_n 3, 1) := by decide +kernel
theorem dX11_powers_27 : decode cX11_powers 27 = .ok (.invokevirtual 149, 3) := by decide +kernel
theorem dX11_powers_30 : decode cX11_powers 30 = .ok (.ifCond .ne 6, 3) := by decide +kernel
theorem dX11_powers_33 : decode cX11_powers 33 = .ok (.bipush (-3), 2) := by decide +kernel
theorem dX11_powers_35 : decode cX11_powers 35 = .ok (.ireturn, 1) := by decide +kernel
theorem dX11_powers_36 : decode cX11_powers 36 = .ok (.aload 5, 2) := by decide +kernel
theorem dX11_powers_38 : decode cX11_powers 38 = .ok (.getfield 163, 3) := by decide +kernel
theorem dX11_powers_41 : decode cX11_powers 41 = .ok (.iload_n 2, 1) := by decide +kernel
theorem dX11_powers_42 : decode cX11_powers 42 = .ok (.iaload, 1) := by decide +kernel
theorem dX11_powers_43 : decode cX11_powers 43 = .ok (.iconst 2, 1) := by decide +kernel
theorem dX11_powers_44 : decode cX11_powers 44 = .ok (.if_icmp .eq 8, 3) := by decide +kernel
theorem dX11_powers_47 : decode cX11_powers 47 = .ok (.bipush (-12), 2) := by decide +kernel
theorem dX11_powers_49 : decode cX11_powers 49 = .ok (.goto 10, 3) := by decide +kernel
theorem dX11_powers_52 : decode cX11_powers 52 = .ok (.aload 5, 2) := by decide +kernel
theorem dX11_powers_54 : decode cX11_powers 54 = .ok (.iload_n 2, 1) := by decide +kernel
theorem dX11_powers_55 : decode cX11_powers 55 = .ok (.iload_n 3, 1) := by decide +kernel
theorem dX11_powers_56 : decode cX11_powers 56 = .ok (.invokevirtual 211, 3) := by decide +kernel
theorem dX11_powers_59 : decode cX11_powers 59 = .ok (.ireturn, 1) := by decide +kernel
def fX11_powers (F : Nat) (a0 : Nat) (a1 : Int) (a2 : Int) (a3 : Int) (h : HF) : RO :=
  zbd (fX11_refuseOperation F a0 a1 a2 h) fun r1 h =>
  if r1 = 0 then (
    zrs (a0 + 5) a1 fun x2 =>
    zbd (fX0_hasElement F x2 a3 h) fun r3 h =>
    if r3 = 0 then (
      some ((-3), h)
    ) else (
      zrd h (x2 + 1) a2 fun x4 =>
      zjn (fun (y59_0 : Int) (h : HF) => (
        some (y59_0, h)
      )) fun j59 =>
      if x4 = 2 then (
        zbd (fX0_powerPath F x2 a2 a3 h) fun r5 h =>
        j59 r5 h
      ) else (
        j59 (-12) h
      )
    )
  ) else (
    some (r1, h)
  )
set_option maxHeartbeats 4000000 in
set_option maxRecDepth 100000 in
theorem mX11_powers (F : Nat) (l : Launch) (g : zG) (B : Nat) (h : HF) (a0 : Nat) (a1 : Int) (a2 : Int) (a3 : Int) (ra0 : kt a0 = 14) (ra1 : rng a1) (ra2 : rng a2) (ra3 : rng a3) : CTi l g B yX11_powers cX11_powers 6 (some .int) 3 [.ref (B + a0), .int (ii a1), .int (ii a2), .int (ii a3)] h (fX11_powers F a0 a1 a2 a3 h) := by
  refine z_enterI (by decide) rfl (Nat.le_of_ble_eq_true rfl) ?_
  intro p e s m args below meth c ls o Q cx hp hl hf hQ
  have hl : lv_has ls 6 [(0, .ref (B + a0)), (1, .int (ii a1)), (2, .int (ii a2)), (3, .int (ii a3))] := hl
  unfold fX11_powers at hf
  refine lv_aload_n cx.1 cx.2.1 dX11_powers_0 rfl (lv_at hl 0 rfl) ?_
  refine lv_iload_n cx.1 cx.2.1 dX11_powers_1 rfl (lv_at hl 1 rfl) ?_
  refine lv_iload_n cx.1 cx.2.1 dX11_powers_2 rfl (lv_at hl 2 rfl) ?_
  refine z_ci cx hp (fun o' hx => zrunV (n := 3) (As := [.int (ii a1), .int (ii a2)]) (rest := []) cx hp (mX11_refuseOperation F l g B h a0 a1 a2 ra0 ra1 ra2 o' hx) 11 ra0 (by decide) rfl vw_X11_refuseOperation ml_X11_141 (by decide) rfl hl.1 rfl (Nat.le_of_ble_eq_true rfl) dX11_powers_3) hf (fun r1 h H locs rr1 hp hf => ?_)
  refine lv_istore (lv' := [(4, .int (ii r1)), (0, .ref (B + a0)), (1, .int (ii a1)), (2, .int (ii a2)), (3, .int (ii a3))]) cx.1 cx.2.1 dX11_powers_6 hl (by decide) rfl (fun ls hl => ?_)
  refine lv_iload cx.1 cx.2.1 dX11_powers_8 (lv_at hl 0 rfl) ?_
  refine z_if_eq cx rr1 (tgt := 16) dX11_powers_10 (by decide) hf (fun _ hf => ?_) (fun _ hf => ?_)
  · refine lv_aload_n cx.1 cx.2.1 dX11_powers_16 rfl (lv_at hl 1 rfl) ?_
    refine z_gets cx hp (T := TX11) 11 2 (a0 + 5) rfl zin_11 (by decide) (by decide) ra0 rfl fl_X11_23 dX11_powers_17 ?_
    refine lv_iload_n cx.1 cx.2.1 dX11_powers_20 rfl (lv_at hl 2 rfl) ?_
    refine z_aald1 cx hp (zs_11_2 a0 (kt_lt ra0 (by decide)) ra0) ra1 dX11_powers_21 hf (fun x2 rx2 hf => ?_)
    refine lv_astore (lv' := [(5, .ref (B + x2)), (4, .int (ii r1)), (0, .ref (B + a0)), (1, .int (ii a1)), (2, .int (ii a2)), (3, .int (ii a3))]) cx.1 cx.2.1 dX11_powers_22 hl (by decide) rfl (fun ls hl => ?_)
    refine lv_aload cx.1 cx.2.1 dX11_powers_24 (lv_at hl 0 rfl) ?_
    refine lv_iload_n cx.1 cx.2.1 dX11_powers_26 rfl (lv_at hl 5 rfl) ?_
    refine z_ci cx hp (fun o' hx => zrunV (n := 3) (As := [.int (ii a3)]) (rest := []) cx hp (mX0_hasElement F l g B h x2 a3 rx2 ra3 o' hx) 0 rx2 (by decide) rfl vw_X0_hasElement ml_X11_149 (by decide) rfl hl.1 rfl (Nat.le_of_ble_eq_true rfl) dX11_powers_27) hf (fun r3 h H locs rr3 hp hf => ?_)
    refine z_if_ne cx rr3 (tgt := 36) dX11_powers_30 (by decide) hf (fun _ hf => ?_) (fun _ hf => ?_)
    · refine z_bipush cx (by decide) dX11_powers_33 ?_
      rw [hQ]; exact z_iret cx hp (by decide) dX11_powers_35 hf
    · refine lv_aload cx.1 cx.2.1 dX11_powers_36 (lv_at hl 0 rfl) ?_
      refine z_gets cx hp (T := TX0) 0 3 (x2 + 1) rfl zin_0 (by decide) (by decide) rx2 rfl fl_X11_163 dX11_powers_38 ?_
      refine lv_iload_n cx.1 cx.2.1 dX11_powers_41 rfl (lv_at hl 4 rfl) ?_
      refine z_iald cx hp (zs_0_3 x2 (kt_lt rx2 (by decide)) rx2) ra2 dX11_powers_42 hf (fun x4 rx4 hf => ?_)
      refine z_iconst cx dX11_powers_43 ?_
      refine z_jn hf (fun j => ∀ (y59_0 : Int) (h : HF) (H : Heap) (locs : List Loc) (ls : Array Slot), rng y59_0 → Hp g B s h H locs → lv_has ls 6 [] → j y59_0 h = some o → W p l e (rmn 3) s m args below meth c H locs 0 0 Q (F0 m 59 ls [.int (ii y59_0)])) ?_ (fun j59 hj59 hf => ?_)
      · intro y59_0 h H locs ls ry59_0 hp hl hf
        rw [hQ]; exact z_iret cx hp ry59_0 dX11_powers_59 hf
      refine z_icmp_eq cx rx4 (by decide) (tgt := 52) dX11_powers_44 (by decide) hf (fun _ hf => ?_) (fun _ hf => ?_)
      · refine lv_aload cx.1 cx.2.1 dX11_powers_52 (lv_at hl 0 rfl) ?_
        refine lv_iload_n cx.1 cx.2.1 dX11_powers_54 rfl (lv_at hl 4 rfl) ?_
        refine lv_iload_n cx.1 cx.2.1 dX11_powers_55 rfl (lv_at hl 5 rfl) ?_
        refine z_ci cx hp (fun o' hx => zrunV (n := 3) (As := [.int (ii a2), .int (ii a3)]) (rest := []) cx hp (mX0_powerPath F l g B h x2 a2 a3 rx2 ra2 ra3 o' hx) 0 rx2 (by decide) rfl vw_X0_powerPath ml_X11_211 (by decide) rfl hl.1 rfl (Nat.le_of_ble_eq_true rfl) dX11_powers_56) hf (fun r5 h H locs rr5 hp hf => ?_)
        exact hj59 r5 h _ _ ls rr5 hp (lv_sub hl [] rfl) hf
      · refine z_bipush cx (by decide) dX11_powers_47 ?_
        refine lv_goto (tgt := 59) cx.1 cx.2.1 dX11_powers_49 (by decide) ?_
        exact hj59 (-12) h _ _ ls (by decide) hp (lv_sub hl [] rfl) hf
  · refine lv_iload cx.1 cx.2.1 dX11_powers_13 (lv_at hl 0 rfl) ?_
    rw [hQ]; exact z_iret cx hp rr1 dX11_powers_15 hf
theorem dX11_centre_0 : decode cX11_centre 0 = .ok (.aload_n 0, 1) := by decide +kernel
theorem dX11_centre_1 : decode cX11_centre 1 = .ok (.iload_n 1, 1) := by decide +kernel
theorem dX11_centre_2 : decode cX11_centre 2 = .ok (.iload_n 2, 1) := by decide +kernel
theorem dX11_centre_3 : decode cX11_centre 3 = .ok (.invokevirtual 169, 3) := by decide +kernel
theorem dX11_centre_6 : decode cX11_centre 6 = .ok (.istore_n 3, 1) := by decide +kernel
theorem dX11_centre_7 : decode cX11_centre 7 = .ok (.iload_n 3, 1) := by decide +kernel
theorem dX11_centre_8 : decode cX11_centre 8 = .ok (.ifCond .eq 7, 3) := by decide +kernel
theorem dX11_centre_11 : decode cX11_centre 11 = .ok (.iload_n 3, 1) := by decide +kernel
theorem dX11_centre_12 : decode cX11_centre 12 = .ok (.goto 13, 3) := by decide +kernel
theorem dX11_centre_15 : decode cX11_centre 15 = .ok (.aload_n 0, 1) := by decide +kernel
theorem dX11_centre_16 : decode cX11_centre 16 = .ok (.getfield 23, 3) := by decide +kernel
theorem dX11_centre_19 : decode cX11_centre 19 = .ok (.iload_n 1, 1) := by decide +kernel
theorem dX11_centre_20 : decode cX11_centre 20 = .ok (.aaload, 1) := by decide +kernel
theorem dX11_centre_21 : decode cX11_centre 21 = .ok (.iload_n 2, 1) := by decide +kernel
theorem dX11_centre_22 : decode cX11_centre 22 = .ok (.invokevirtual 214, 3) := by decide +kernel
theorem dX11_centre_25 : decode cX11_centre 25 = .ok (.ireturn, 1) := by decide +kernel
def fX11_centre (F : Nat) (a0 : Nat) (a1 : Int) (a2 : Int) (h : HF) : RO :=
  zbd (fX11_refuseBinary F a0 a1 a2 h) fun r1 h =>
  zjn (fun (y25_0 : Int) (h : HF) => (
    some (y25_0, h)
  )) fun j25 =>
  if r1 = 0 then (
    zrs (a0 + 5) a1 fun x2 =>
    zbd (fX0_centreBits F x2 a2 h) fun r3 h =>
    j25 r3 h
  ) else (
    j25 r1 h
  )
set_option maxHeartbeats 4000000 in
set_option maxRecDepth 100000 in
theorem mX11_centre (F : Nat) (l : Launch) (g : zG) (B : Nat) (h : HF) (a0 : Nat) (a1 : Int) (a2 : Int) (ra0 : kt a0 = 14) (ra1 : rng a1) (ra2 : rng a2) : CTi l g B yX11_centre cX11_centre 4 (some .int) 4 [.ref (B + a0), .int (ii a1), .int (ii a2)] h (fX11_centre F a0 a1 a2 h) := by
  refine z_enterI (by decide) rfl (Nat.le_of_ble_eq_true rfl) ?_
  intro p e s m args below meth c ls o Q cx hp hl hf hQ
  have hl : lv_has ls 4 [(0, .ref (B + a0)), (1, .int (ii a1)), (2, .int (ii a2))] := hl
  unfold fX11_centre at hf
  refine lv_aload_n cx.1 cx.2.1 dX11_centre_0 rfl (lv_at hl 0 rfl) ?_
  refine lv_iload_n cx.1 cx.2.1 dX11_centre_1 rfl (lv_at hl 1 rfl) ?_
  refine lv_iload_n cx.1 cx.2.1 dX11_centre_2 rfl (lv_at hl 2 rfl) ?_
  refine z_ci cx hp (fun o' hx => zrunV (n := 4) (As := [.int (ii a1), .int (ii a2)]) (rest := []) cx hp (mX11_refuseBinary F l g B h a0 a1 a2 ra0 ra1 ra2 o' hx) 11 ra0 (by decide) rfl vw_X11_refuseBinary ml_X11_169 (by decide) rfl hl.1 rfl (Nat.le_of_ble_eq_true rfl) dX11_centre_3) hf (fun r1 h H locs rr1 hp hf => ?_)
  refine lv_istore_n (lv' := [(3, .int (ii r1)), (0, .ref (B + a0)), (1, .int (ii a1)), (2, .int (ii a2))]) cx.1 cx.2.1 dX11_centre_6 rfl hl (by decide) rfl (fun ls hl => ?_)
  refine lv_iload_n cx.1 cx.2.1 dX11_centre_7 rfl (lv_at hl 0 rfl) ?_
  refine z_jn hf (fun j => ∀ (y25_0 : Int) (h : HF) (H : Heap) (locs : List Loc) (ls : Array Slot), rng y25_0 → Hp g B s h H locs → lv_has ls 4 [] → j y25_0 h = some o → W p l e (rmn 4) s m args below meth c H locs 0 0 Q (F0 m 25 ls [.int (ii y25_0)])) ?_ (fun j25 hj25 hf => ?_)
  · intro y25_0 h H locs ls ry25_0 hp hl hf
    rw [hQ]; exact z_iret cx hp ry25_0 dX11_centre_25 hf
  refine z_if_eq cx rr1 (tgt := 15) dX11_centre_8 (by decide) hf (fun _ hf => ?_) (fun _ hf => ?_)
  · refine lv_aload_n cx.1 cx.2.1 dX11_centre_15 rfl (lv_at hl 1 rfl) ?_
    refine z_gets cx hp (T := TX11) 11 2 (a0 + 5) rfl zin_11 (by decide) (by decide) ra0 rfl fl_X11_23 dX11_centre_16 ?_
    refine lv_iload_n cx.1 cx.2.1 dX11_centre_19 rfl (lv_at hl 2 rfl) ?_
    refine z_aald1 cx hp (zs_11_2 a0 (kt_lt ra0 (by decide)) ra0) ra1 dX11_centre_20 hf (fun x2 rx2 hf => ?_)
    refine lv_iload_n cx.1 cx.2.1 dX11_centre_21 rfl (lv_at hl 3 rfl) ?_
    refine z_ci cx hp (fun o' hx => zrunV (n := 4) (As := [.int (ii a2)]) (rest := []) cx hp (mX0_centreBits F l g B h x2 a2 rx2 ra2 o' hx) 0 rx2 (by decide) rfl vw_X0_centreBits ml_X11_214 (by decide) rfl hl.1 rfl (Nat.le_of_ble_eq_true rfl) dX11_centre_22) hf (fun r3 h H locs rr3 hp hf => ?_)
    exact hj25 r3 h _ _ ls rr3 hp (lv_sub hl [] rfl) hf
  · refine lv_iload_n cx.1 cx.2.1 dX11_centre_11 rfl (lv_at hl 0 rfl) ?_
    refine lv_goto (tgt := 25) cx.1 cx.2.1 dX11_centre_12 (by decide) ?_
    exact hj25 r1 h _ _ ls rr1 hp (lv_sub hl [] rfl) hf
theorem dX11_count_0 : decode cX11_count 0 = .ok (.iload_n 1, 1) := by decide +kernel
theorem dX11_count_1 : decode cX11_count 1 = .ok (.tableswitch 69 0 4 #[35, 43, 51, 59, 64], 35) := by decide +kernel
theorem dX11_count_70 : decode cX11_count 70 = .ok (.bipush (-3), 2) := by decide +kernel
theorem dX11_count_72 : decode cX11_count 72 = .ok (.ireturn, 1) := by decide +kernel
theorem dX11_count_65 : decode cX11_count 65 = .ok (.aload_n 0, 1) := by decide +kernel
theorem dX11_count_66 : decode cX11_count 66 = .ok (.invokevirtual 357, 3) := by decide +kernel
theorem dX11_count_69 : decode cX11_count 69 = .ok (.ireturn, 1) := by decide +kernel
theorem dX11_count_60 : decode cX11_count 60 = .ok (.aload_n 0, 1) := by decide +kernel
theorem dX11_count_61 : decode cX11_count 61 = .ok (.invokevirtual 354, 3) := by decide +kernel
theorem dX11_count_64 : decode cX11_count 64 = .ok (.ireturn, 1) := by decide +kernel
theorem dX11_count_52 : decode cX11_count 52 = .ok (.aload_n 0, 1) := by decide +kernel
theorem dX11_count_53 : decode cX11_count 53 = .ok (.getfield 35, 3) := by decide +kernel
theorem dX11_count_56 : decode cX11_count 56 = .ok (.getfield 351, 3) := by decide +kernel
theorem dX11_count_59 : decode cX11_count 59 = .ok (.ireturn, 1) := by decide +kernel
theorem dX11_count_44 : decode cX11_count 44 = .ok (.aload_n 0, 1) := by decide +kernel
theorem dX11_count_45 : decode cX11_count 45 = .ok (.getfield 18, 3) := by decide +kernel
theorem dX11_count_48 : decode cX11_count 48 = .ok (.getfield 115, 3) := by decide +kernel
theorem dX11_count_51 : decode cX11_count 51 = .ok (.ireturn, 1) := by decide +kernel
theorem dX11_count_36 : decode cX11_count 36 = .ok (.aload_n 0, 1) := by decide +kernel
theorem dX11_count_37 : decode cX11_count 37 = .ok (.getfield 14, 3) := by decide +kernel
theorem dX11_count_40 : decode cX11_count 40 = .ok (.getfield 115, 3) := by decide +kernel
theorem dX11_count_43 : decode cX11_count 43 = .ok (.ireturn, 1) := by decide +kernel
def fX11_count (F : Nat) (a0 : Nat) (a1 : Int) (h : HF) : RO :=
  if a1 = 0 then (
    zgf h (a0 + 1) 1 fun x2 =>
    some (x2, h)
  ) else (
  if a1 = 1 then (
    zgf h (a0 + 3) 1 fun x4 =>
    some (x4, h)
  ) else (
  if a1 = 2 then (
    zgf h (a0 + 10) 3 fun x6 =>
    some (x6, h)
  ) else (
  if a1 = 3 then (
    zbd (fX11_fullDrawers F a0 h) fun r8 h =>
    some (r8, h)
  ) else (
  if a1 = 4 then (
    zbd (fX11_fullLists F a0 h) fun r10 h =>
    some (r10, h)
  ) else (
    some ((-3), h)
  )
  )
  )
  )
  )
set_option maxHeartbeats 4000000 in
set_option maxRecDepth 100000 in
theorem mX11_count (F : Nat) (l : Launch) (g : zG) (B : Nat) (h : HF) (a0 : Nat) (a1 : Int) (ra0 : kt a0 = 14) (ra1 : rng a1) : CTi l g B yX11_count cX11_count 2 (some .int) 2 [.ref (B + a0), .int (ii a1)] h (fX11_count F a0 a1 h) := by
  refine z_enterI (by decide) rfl (Nat.le_of_ble_eq_true rfl) ?_
  intro p e s m args below meth c ls o Q cx hp hl hf hQ
  have hl : lv_has ls 2 [(0, .ref (B + a0)), (1, .int (ii a1))] := hl
  unfold fX11_count at hf
  refine lv_iload_n cx.1 cx.2.1 dX11_count_0 rfl (lv_at hl 1 rfl) ?_
  refine ite_inv hf (fun c1 hf => ?_) (fun c1 hf => ?_)
  · refine lv_tableIn (off := 35) (tgt := 36) cx.1 cx.2.1 dX11_count_1 (by rw [c1]; decide) (by rw [c1]; decide) (by rw [c1]; rfl) (by decide) ?_
    refine lv_aload_n cx.1 cx.2.1 dX11_count_36 rfl (lv_at hl 0 rfl) ?_
    refine z_gets cx hp (T := TX11) 11 0 (a0 + 1) rfl zin_11 (by decide) (by decide) ra0 rfl fl_X11_14 dX11_count_37 ?_
    refine z_geti cx hp (T := TX1) 1 1 rfl zin_1 (by decide) (by decide) (zs_11_0 a0 (kt_lt ra0 (by decide)) ra0) rfl fl_X11_115 dX11_count_40 hf (fun x2 rx2 hf => ?_)
    rw [hQ]; exact z_iret cx hp rx2 dX11_count_43 hf
  · refine ite_inv hf (fun c3 hf => ?_) (fun c3 hf => ?_)
    · refine lv_tableIn (off := 43) (tgt := 44) cx.1 cx.2.1 dX11_count_1 (by rw [c3]; decide) (by rw [c3]; decide) (by rw [c3]; rfl) (by decide) ?_
      refine lv_aload_n cx.1 cx.2.1 dX11_count_44 rfl (lv_at hl 0 rfl) ?_
      refine z_gets cx hp (T := TX11) 11 1 (a0 + 3) rfl zin_11 (by decide) (by decide) ra0 rfl fl_X11_18 dX11_count_45 ?_
      refine z_geti cx hp (T := TX1) 1 1 rfl zin_1 (by decide) (by decide) (zs_11_1 a0 (kt_lt ra0 (by decide)) ra0) rfl fl_X11_115 dX11_count_48 hf (fun x4 rx4 hf => ?_)
      rw [hQ]; exact z_iret cx hp rx4 dX11_count_51 hf
    · refine ite_inv hf (fun c5 hf => ?_) (fun c5 hf => ?_)
      · refine lv_tableIn (off := 51) (tgt := 52) cx.1 cx.2.1 dX11_count_1 (by rw [c5]; decide) (by rw [c5]; decide) (by rw [c5]; rfl) (by decide) ?_
        refine lv_aload_n cx.1 cx.2.1 dX11_count_52 rfl (lv_at hl 0 rfl) ?_
        refine z_gets cx hp (T := TX11) 11 4 (a0 + 10) rfl zin_11 (by decide) (by decide) ra0 rfl fl_X11_35 dX11_count_53 ?_
        refine z_geti cx hp (T := TX3) 3 3 rfl zin_3 (by decide) (by decide) (zs_11_4 a0 (kt_lt ra0 (by decide)) ra0) rfl fl_X11_351 dX11_count_56 hf (fun x6 rx6 hf => ?_)
        rw [hQ]; exact z_iret cx hp rx6 dX11_count_59 hf
      · refine ite_inv hf (fun c7 hf => ?_) (fun c7 hf => ?_)
        · refine lv_tableIn (off := 59) (tgt := 60) cx.1 cx.2.1 dX11_count_1 (by rw [c7]; decide) (by rw [c7]; decide) (by rw [c7]; rfl) (by decide) ?_
          refine lv_aload_n cx.1 cx.2.1 dX11_count_60 rfl (lv_at hl 0 rfl) ?_
          refine z_ci cx hp (fun o' hx => zrunV (n := 2) (As := []) (rest := []) cx hp (mX11_fullDrawers F l g B h a0 ra0 o' hx) 11 ra0 (by decide) rfl vw_X11_fullDrawers ml_X11_354 (by decide) rfl hl.1 rfl (Nat.le_of_ble_eq_true rfl) dX11_count_61) hf (fun r8 h H locs rr8 hp hf => ?_)
          rw [hQ]; exact z_iret cx hp rr8 dX11_count_64 hf
        · refine ite_inv hf (fun c9 hf => ?_) (fun c9 hf => ?_)
          · refine lv_tableIn (off := 64) (tgt := 65) cx.1 cx.2.1 dX11_count_1 (by rw [c9]; decide) (by rw [c9]; decide) (by rw [c9]; rfl) (by decide) ?_
            refine lv_aload_n cx.1 cx.2.1 dX11_count_65 rfl (lv_at hl 0 rfl) ?_
            refine z_ci cx hp (fun o' hx => zrunV (n := 2) (As := []) (rest := []) cx hp (mX11_fullLists F l g B h a0 ra0 o' hx) 11 ra0 (by decide) rfl vw_X11_fullLists ml_X11_357 (by decide) rfl hl.1 rfl (Nat.le_of_ble_eq_true rfl) dX11_count_66) hf (fun r10 h H locs rr10 hp hf => ?_)
            rw [hQ]; exact z_iret cx hp rr10 dX11_count_69 hf
          · refine lv_tableOut (tgt := 70) cx.1 cx.2.1 dX11_count_1 (by rw [ii_ti ra1]; omega) (by decide) ?_
            refine z_bipush cx (by decide) dX11_count_70 ?_
            rw [hQ]; exact z_iret cx hp (by decide) dX11_count_72 hf
theorem dX11_putDraft_0 : decode cX11_putDraft 0 = .ok (.aload_n 0, 1) := by decide +kernel
theorem dX11_putDraft_1 : decode cX11_putDraft 1 = .ok (.getfield 35, 3) := by decide +kernel
theorem dX11_putDraft_4 : decode cX11_putDraft 4 = .ok (.iload_n 1, 1) := by decide +kernel
theorem dX11_putDraft_5 : decode cX11_putDraft 5 = .ok (.aload_n 0, 1) := by decide +kernel
theorem dX11_putDraft_6 : decode cX11_putDraft 6 = .ok (.getfield 23, 3) := by decide +kernel
theorem dX11_putDraft_9 : decode cX11_putDraft 9 = .ok (.iload_n 1, 1) := by decide +kernel
theorem dX11_putDraft_10 : decode cX11_putDraft 10 = .ok (.aaload, 1) := by decide +kernel
theorem dX11_putDraft_11 : decode cX11_putDraft 11 = .ok (.invokevirtual 152, 3) := by decide +kernel
theorem dX11_putDraft_14 : decode cX11_putDraft 14 = .ok (.aload_n 0, 1) := by decide +kernel
theorem dX11_putDraft_15 : decode cX11_putDraft 15 = .ok (.getfield 23, 3) := by decide +kernel
theorem dX11_putDraft_18 : decode cX11_putDraft 18 = .ok (.iload_n 1, 1) := by decide +kernel
theorem dX11_putDraft_19 : decode cX11_putDraft 19 = .ok (.aaload, 1) := by decide +kernel
theorem dX11_putDraft_20 : decode cX11_putDraft 20 = .ok (.aload_n 0, 1) := by decide +kernel
theorem dX11_putDraft_21 : decode cX11_putDraft 21 = .ok (.getfield 28, 3) := by decide +kernel
theorem dX11_putDraft_24 : decode cX11_putDraft 24 = .ok (.invokevirtual 365, 3) := by decide +kernel
theorem dX11_putDraft_27 : decode cX11_putDraft 27 = .ok (.return_, 1) := by decide +kernel
def fX11_putDraft (F : Nat) (a0 : Nat) (a1 : Int) (h : HF) : RO :=
  zrs (a0 + 5) a1 fun x1 =>
  zbd (fX3_keep F (a0 + 10) a1 x1 h) fun _ h =>
  zrs (a0 + 5) a1 fun x3 =>
  zbd (fX0_copyFrom F x3 (a0 + 6) h) fun _ h =>
  some (0, h)
set_option maxHeartbeats 4000000 in
set_option maxRecDepth 100000 in
theorem mX11_putDraft (F : Nat) (l : Launch) (g : zG) (B : Nat) (h : HF) (a0 : Nat) (a1 : Int) (ra0 : kt a0 = 14) (ra1 : rng a1) : CTv l g B yX11_putDraft cX11_putDraft 2 3 [.ref (B + a0), .int (ii a1)] h (fX11_putDraft F a0 a1 h) := by
  refine z_enterV (by decide) rfl (Nat.le_of_ble_eq_true rfl) ?_
  intro p e s m args below meth c ls o Q cx hp hl hf hQ
  have hl : lv_has ls 2 [(0, .ref (B + a0)), (1, .int (ii a1))] := hl
  unfold fX11_putDraft at hf
  refine lv_aload_n cx.1 cx.2.1 dX11_putDraft_0 rfl (lv_at hl 0 rfl) ?_
  refine z_gets cx hp (T := TX11) 11 4 (a0 + 10) rfl zin_11 (by decide) (by decide) ra0 rfl fl_X11_35 dX11_putDraft_1 ?_
  refine lv_iload_n cx.1 cx.2.1 dX11_putDraft_4 rfl (lv_at hl 1 rfl) ?_
  refine lv_aload_n cx.1 cx.2.1 dX11_putDraft_5 rfl (lv_at hl 0 rfl) ?_
  refine z_gets cx hp (T := TX11) 11 2 (a0 + 5) rfl zin_11 (by decide) (by decide) ra0 rfl fl_X11_23 dX11_putDraft_6 ?_
  refine lv_iload_n cx.1 cx.2.1 dX11_putDraft_9 rfl (lv_at hl 1 rfl) ?_
  refine z_aald1 cx hp (zs_11_2 a0 (kt_lt ra0 (by decide)) ra0) ra1 dX11_putDraft_10 hf (fun x1 rx1 hf => ?_)
  refine z_cv cx hp (fun o' hx => zrunV (n := 3) (As := [.int (ii a1), .ref (B + x1)]) (rest := []) cx hp (mX3_keep F l g B h (a0 + 10) a1 x1 (zs_11_4 a0 (kt_lt ra0 (by decide)) ra0) ra1 rx1 o' hx) 3 (zs_11_4 a0 (kt_lt ra0 (by decide)) ra0) (by decide) rfl vw_X3_keep ml_X11_152 (by decide) rfl hl.1 rfl (Nat.le_of_ble_eq_true rfl) dX11_putDraft_11) hf (fun _ h H locs hp hf => ?_)
  refine lv_aload_n cx.1 cx.2.1 dX11_putDraft_14 rfl (lv_at hl 0 rfl) ?_
  refine z_gets cx hp (T := TX11) 11 2 (a0 + 5) rfl zin_11 (by decide) (by decide) ra0 rfl fl_X11_23 dX11_putDraft_15 ?_
  refine lv_iload_n cx.1 cx.2.1 dX11_putDraft_18 rfl (lv_at hl 1 rfl) ?_
  refine z_aald1 cx hp (zs_11_2 a0 (kt_lt ra0 (by decide)) ra0) ra1 dX11_putDraft_19 hf (fun x3 rx3 hf => ?_)
  refine lv_aload_n cx.1 cx.2.1 dX11_putDraft_20 rfl (lv_at hl 0 rfl) ?_
  refine z_gets cx hp (T := TX11) 11 3 (a0 + 6) rfl zin_11 (by decide) (by decide) ra0 rfl fl_X11_28 dX11_putDraft_21 ?_
  refine z_cv cx hp (fun o' hx => zrunV (n := 3) (As := [.ref (B + (a0 + 6))]) (rest := []) cx hp (mX0_copyFrom F l g B h x3 (a0 + 6) rx3 (zs_11_3 a0 (kt_lt ra0 (by decide)) ra0) o' hx) 0 rx3 (by decide) rfl vw_X0_copyFrom ml_X11_365 (by decide) rfl hl.1 rfl (Nat.le_of_ble_eq_true rfl) dX11_putDraft_24) hf (fun _ h H locs hp hf => ?_)
  rw [hQ]; exact z_vret cx hp dX11_putDraft_27 hf
theorem dX11_numberMembers_0 : decode cX11_numberMembers 0 = .ok (.iconst 0, 1) := by decide +kernel
theorem dX11_numberMembers_1 : decode cX11_numberMembers 1 = .ok (.istore_n 3, 1) := by decide +kernel
theorem dX11_numberMembers_2 : decode cX11_numberMembers 2 = .ok (.iconst 0, 1) := by decide +kernel
theorem dX11_numberMembers_3 : decode cX11_numberMembers 3 = .ok (.istore 4, 2) := by decide +kernel
theorem dX11_numberMembers_5 : decode cX11_numberMembers 5 = .ok (.iload 4, 2) := by decide +kernel
theorem dX11_numberMembers_7 : decode cX11_numberMembers 7 = .ok (.iload_n 2, 1) := by decide +kernel
theorem dX11_numberMembers_8 : decode cX11_numberMembers 8 = .ok (.if_icmp .ge 37, 3) := by decide +kernel
theorem dX11_numberMembers_11 : decode cX11_numberMembers 11 = .ok (.aload_n 0, 1) := by decide +kernel
theorem dX11_numberMembers_12 : decode cX11_numberMembers 12 = .ok (.getfield 105, 3) := by decide +kernel
theorem dX11_numberMembers_15 : decode cX11_numberMembers 15 = .ok (.iload 4, 2) := by decide +kernel
theorem dX11_numberMembers_17 : decode cX11_numberMembers 17 = .ok (.iload_n 3, 1) := by decide +kernel
theorem dX11_numberMembers_18 : decode cX11_numberMembers 18 = .ok (.iastore, 1) := by decide +kernel
theorem dX11_numberMembers_19 : decode cX11_numberMembers 19 = .ok (.iload_n 1, 1) := by decide +kernel
theorem dX11_numberMembers_20 : decode cX11_numberMembers 20 = .ok (.iload 4, 2) := by decide +kernel
theorem dX11_numberMembers_22 : decode cX11_numberMembers 22 = .ok (.invokestatic 368, 3) := by decide +kernel
theorem dX11_numberMembers_25 : decode cX11_numberMembers 25 = .ok (.ifCond .eq 14, 3) := by decide +kernel
theorem dX11_numberMembers_28 : decode cX11_numberMembers 28 = .ok (.aload_n 0, 1) := by decide +kernel
theorem dX11_numberMembers_29 : decode cX11_numberMembers 29 = .ok (.getfield 101, 3) := by decide +kernel
theorem dX11_numberMembers_32 : decode cX11_numberMembers 32 = .ok (.iload_n 3, 1) := by decide +kernel
theorem dX11_numberMembers_33 : decode cX11_numberMembers 33 = .ok (.iload 4, 2) := by decide +kernel
theorem dX11_numberMembers_35 : decode cX11_numberMembers 35 = .ok (.iastore, 1) := by decide +kernel
theorem dX11_numberMembers_36 : decode cX11_numberMembers 36 = .ok (.iinc 3 1, 3) := by decide +kernel
theorem dX11_numberMembers_39 : decode cX11_numberMembers 39 = .ok (.iinc 4 1, 3) := by decide +kernel
theorem dX11_numberMembers_42 : decode cX11_numberMembers 42 = .ok (.goto (-37), 3) := by decide +kernel
theorem dX11_numberMembers_45 : decode cX11_numberMembers 45 = .ok (.iload_n 3, 1) := by decide +kernel
theorem dX11_numberMembers_46 : decode cX11_numberMembers 46 = .ok (.ireturn, 1) := by decide +kernel
def LX11_numberMembers_5 (F : Nat) (u0 : Nat) (u1 : Int) (u2 : Int) (k45 : Int → HF → RO) : Nat → Int → Int → HF → RO
  | 0, _, _, _ => none
  | n + 1, v3, v4, h =>
    if v4 < u2 then (
      zwr h (u0 + 116) v4 v3 fun h =>
      zbd (fX11_hasBit F u1 v4 h) fun r1 h =>
      zjn (fun (x39_3 : Int) (x39_4 : Int) (h : HF) => (
        zlet (wr (x39_4 + 1)) fun x2 =>
        LX11_numberMembers_5 F u0 u1 u2 k45 n x39_3 x2 h
      )) fun j39 =>
      if r1 = 0 then (
        j39 v3 v4 h
      ) else (
        zwr h (u0 + 115) v3 v4 fun h =>
        zlet (wr (v3 + 1)) fun x3 =>
        j39 x3 v4 h
      )
    ) else (
      k45 v3 h
    )
set_option maxHeartbeats 4000000 in
set_option maxRecDepth 100000 in
theorem wX11_numberMembers_5 {p : Program} {l : Launch} {e : Env} {s : State} {m : MethodId} {args : Array Value} {below : List Frame} {meth : Method} {c : Code} {Q : State → Prop} {g : zG} {B : Nat} {o : Int × HF} (F : Nat) (cx : Cx p s m args meth c cX11_numberMembers 5 RX11 (some .int) g B) (u0 : Nat) (ru0 : kt u0 = 14) (u1 : Int) (ru1 : rng u1) (u2 : Int) (ru2 : rng u2) (k45 : Int → HF → RO) (hk45 : ∀ (x3 : Int) (h : HF) (H : Heap) (locs : List Loc) (ls : Array Slot), rng x3 → Hp g B s h H locs → lv_has ls 5 [(3, .int (ii x3))] → k45 x3 h = some o → W p l e (rmn 1) s m args below meth c H locs 0 0 Q (F0 m 45 ls [])) : ∀ (n : Nat) (v3 : Int) (v4 : Int) (h : HF) (H : Heap) (locs : List Loc) (ls : Array Slot), rng v3 → rng v4 → Hp g B s h H locs → lv_has ls 5 [(0, .ref (B + u0)), (1, .int (ii u1)), (2, .int (ii u2)), (3, .int (ii v3)), (4, .int (ii v4))] → LX11_numberMembers_5 F u0 u1 u2 k45 n v3 v4 h = some o → W p l e (rmn 1) s m args below meth c H locs 0 0 Q (F0 m 5 ls []) := by
  intro n
  induction n with
  | zero =>
    intro v3 v4 h H locs ls rv3 rv4 hp hl hf
    cases hf
  | succ n ih =>
    intro v3 v4 h H locs ls rv3 rv4 hp hl hf
    rw [LX11_numberMembers_5] at hf
    refine lv_iload cx.1 cx.2.1 dX11_numberMembers_5 (lv_at hl 4 rfl) ?_
    refine lv_iload_n cx.1 cx.2.1 dX11_numberMembers_7 rfl (lv_at hl 2 rfl) ?_
    refine z_icmp_ge cx rv4 ru2 (tgt := 45) dX11_numberMembers_8 (by decide) hf (fun _ hf => ?_) (fun _ hf => ?_)
    · refine lv_aload_n cx.1 cx.2.1 dX11_numberMembers_11 rfl (lv_at hl 0 rfl) ?_
      refine z_gets cx hp (T := TX11) 11 15 (u0 + 116) rfl zin_11 (by decide) (by decide) ru0 rfl fl_X11_105 dX11_numberMembers_12 ?_
      refine lv_iload cx.1 cx.2.1 dX11_numberMembers_15 (lv_at hl 4 rfl) ?_
      refine lv_iload_n cx.1 cx.2.1 dX11_numberMembers_17 rfl (lv_at hl 3 rfl) ?_
      refine z_iast cx hp (zs_11_15 u0 (kt_lt ru0 (by decide)) ru0) rv4 rv3 dX11_numberMembers_18 hf (fun h H locs hp hf => ?_)
      refine lv_iload_n cx.1 cx.2.1 dX11_numberMembers_19 rfl (lv_at hl 1 rfl) ?_
      refine lv_iload cx.1 cx.2.1 dX11_numberMembers_20 (lv_at hl 4 rfl) ?_
      refine z_ci cx hp (fun o' hx => zrunS (n := 1) (As := [.int (ii u1), .int (ii v4)]) (rest := []) cx hp (mX11_hasBit F l g B h u1 v4 ru1 rv4 o' hx) sw_X11_hasBit ml_X11_368 (by decide) rfl hl.1 rfl (Nat.le_of_ble_eq_true rfl) dX11_numberMembers_22) hf (fun r1 h H locs rr1 hp hf => ?_)
      refine z_jn hf (fun j => ∀ (x39_3 : Int) (x39_4 : Int) (h : HF) (H : Heap) (locs : List Loc) (ls : Array Slot), rng x39_3 → rng x39_4 → Hp g B s h H locs → lv_has ls 5 [(0, .ref (B + u0)), (1, .int (ii u1)), (2, .int (ii u2)), (3, .int (ii x39_3)), (4, .int (ii x39_4))] → j x39_3 x39_4 h = some o → W p l e (rmn 1) s m args below meth c H locs 0 0 Q (F0 m 39 ls [])) ?_ (fun j39 hj39 hf => ?_)
      · intro x39_3 x39_4 h H locs ls rx39_3 rx39_4 hp hl hf
        refine z_iinc cx (fun x2 => [(4, .int (ii x2)), (0, .ref (B + u0)), (1, .int (ii u1)), (2, .int (ii u2)), (3, .int (ii x39_3))]) dX11_numberMembers_39 hl (k := 4) rfl (by decide) (fun _ => rfl) hf (fun x2 rx2 hf ls hl => ?_)
        refine lv_goto (tgt := 5) cx.1 cx.2.1 dX11_numberMembers_42 (by decide) ?_
        exact ih x39_3 x2 h _ _ ls rx39_3 rx2 hp (lv_sub hl [1, 2, 3, 4, 0] rfl) hf
      refine z_if_eq cx rr1 (tgt := 39) dX11_numberMembers_25 (by decide) hf (fun _ hf => ?_) (fun _ hf => ?_)
      · exact hj39 v3 v4 h _ _ ls rv3 rv4 hp (lv_sub hl [0, 1, 2, 3, 4] rfl) hf
      · refine lv_aload_n cx.1 cx.2.1 dX11_numberMembers_28 rfl (lv_at hl 0 rfl) ?_
        refine z_gets cx hp (T := TX11) 11 14 (u0 + 115) rfl zin_11 (by decide) (by decide) ru0 rfl fl_X11_101 dX11_numberMembers_29 ?_
        refine lv_iload_n cx.1 cx.2.1 dX11_numberMembers_32 rfl (lv_at hl 3 rfl) ?_
        refine lv_iload cx.1 cx.2.1 dX11_numberMembers_33 (lv_at hl 4 rfl) ?_
        refine z_iast cx hp (zs_11_14 u0 (kt_lt ru0 (by decide)) ru0) rv3 rv4 dX11_numberMembers_35 hf (fun h H locs hp hf => ?_)
        refine z_iinc cx (fun x3 => [(3, .int (ii x3)), (0, .ref (B + u0)), (1, .int (ii u1)), (2, .int (ii u2)), (4, .int (ii v4))]) dX11_numberMembers_36 hl (k := 3) rfl (by decide) (fun _ => rfl) hf (fun x3 rx3 hf ls hl => ?_)
        exact hj39 x3 v4 h _ _ ls rx3 rv4 hp (lv_sub hl [1, 2, 3, 0, 4] rfl) hf
    · exact hk45 v3 h _ _ ls rv3 hp (lv_sub hl [3] rfl) hf
def fX11_numberMembers (F : Nat) (a0 : Nat) (a1 : Int) (a2 : Int) (h : HF) : RO :=
  zjn (fun (x45_3 : Int) (h : HF) => (
    some (x45_3, h)
  )) fun j45 =>
  LX11_numberMembers_5 F a0 a1 a2 j45 F 0 0 h
set_option maxHeartbeats 4000000 in
set_option maxRecDepth 100000 in
theorem mX11_numberMembers (F : Nat) (l : Launch) (g : zG) (B : Nat) (h : HF) (a0 : Nat) (a1 : Int) (a2 : Int) (ra0 : kt a0 = 14) (ra1 : rng a1) (ra2 : rng a2) : CTi l g B yX11_numberMembers cX11_numberMembers 5 (some .int) 1 [.ref (B + a0), .int (ii a1), .int (ii a2)] h (fX11_numberMembers F a0 a1 a2 h) := by
  refine z_enterI (by decide) rfl (Nat.le_of_ble_eq_true rfl) ?_
  intro p e s m args below meth c ls o Q cx hp hl hf hQ
  have hl : lv_has ls 5 [(0, .ref (B + a0)), (1, .int (ii a1)), (2, .int (ii a2))] := hl
  unfold fX11_numberMembers at hf
  refine z_iconst cx dX11_numberMembers_0 ?_
  refine lv_istore_n (lv' := [(3, .int (ii 0)), (0, .ref (B + a0)), (1, .int (ii a1)), (2, .int (ii a2))]) cx.1 cx.2.1 dX11_numberMembers_1 rfl hl (by decide) rfl (fun ls hl => ?_)
  refine z_iconst cx dX11_numberMembers_2 ?_
  refine lv_istore (lv' := [(4, .int (ii 0)), (3, .int (ii 0)), (0, .ref (B + a0)), (1, .int (ii a1)), (2, .int (ii a2))]) cx.1 cx.2.1 dX11_numberMembers_3 hl (by decide) rfl (fun ls hl => ?_)
  refine z_jn hf (fun j => ∀ (x45_3 : Int) (h : HF) (H : Heap) (locs : List Loc) (ls : Array Slot), rng x45_3 → Hp g B s h H locs → lv_has ls 5 [(3, .int (ii x45_3))] → j x45_3 h = some o → W p l e (rmn 1) s m args below meth c H locs 0 0 Q (F0 m 45 ls [])) ?_ (fun j45 hj45 hf => ?_)
  · intro x45_3 h H locs ls rx45_3 hp hl hf
    refine lv_iload_n cx.1 cx.2.1 dX11_numberMembers_45 rfl (lv_at hl 0 rfl) ?_
    rw [hQ]; exact z_iret cx hp rx45_3 dX11_numberMembers_46 hf
  exact wX11_numberMembers_5 F cx a0 ra0 a1 ra1 a2 ra2 j45 hj45 F 0 0 h _ _ ls (by decide) (by decide) hp (lv_sub hl [2, 3, 4, 1, 0] rfl) hf
theorem dX11_refuseModels_0 : decode cX11_refuseModels 0 = .ok (.iload_n 3, 1) := by decide +kernel
theorem dX11_refuseModels_1 : decode cX11_refuseModels 1 = .ok (.invokestatic 217, 3) := by decide +kernel
theorem dX11_refuseModels_4 : decode cX11_refuseModels 4 = .ok (.ifCond .ne 6, 3) := by decide +kernel
theorem dX11_refuseModels_7 : decode cX11_refuseModels 7 = .ok (.bipush (-3), 2) := by decide +kernel
theorem dX11_refuseModels_9 : decode cX11_refuseModels 9 = .ok (.ireturn, 1) := by decide +kernel
theorem dX11_refuseModels_10 : decode cX11_refuseModels 10 = .ok (.aload_n 0, 1) := by decide +kernel
theorem dX11_refuseModels_11 : decode cX11_refuseModels 11 = .ok (.getfield 41, 3) := by decide +kernel
theorem dX11_refuseModels_14 : decode cX11_refuseModels 14 = .ok (.iload_n 3, 1) := by decide +kernel
theorem dX11_refuseModels_15 : decode cX11_refuseModels 15 = .ok (.aaload, 1) := by decide +kernel
theorem dX11_refuseModels_16 : decode cX11_refuseModels 16 = .ok (.invokevirtual 364, 3) := by decide +kernel
theorem dX11_refuseModels_19 : decode cX11_refuseModels 19 = .ok (.ifCond .ne 6, 3) := by decide +kernel
theorem dX11_refuseModels_22 : decode cX11_refuseModels 22 = .ok (.bipush (-2), 2) := by decide +kernel
theorem dX11_refuseModels_24 : decode cX11_refuseModels 24 = .ok (.ireturn, 1) := by decide +kernel
theorem dX11_refuseModels_25 : decode cX11_refuseModels 25 = .ok (.iload_n 1, 1) := by decide +kernel
theorem dX11_refuseModels_26 : decode cX11_refuseModels 26 = .ok (.iload_n 2, 1) := by decide +kernel
theorem dX11_refuseModels_27 : decode cX11_refuseModels 27 = .ok (.invokestatic 126, 3) := by decide +kernel
theorem dX11_refuseModels_30 : decode cX11_refuseModels 30 = .ok (.ifCond .ne 6, 3) := by decide +kernel
theorem dX11_refuseModels_33 : decode cX11_refuseModels 33 = .ok (.bipush (-3), 2) := by decide +kernel
theorem dX11_refuseModels_35 : decode cX11_refuseModels 35 = .ok (.ireturn, 1) := by decide +kernel
theorem dX11_refuseModels_36 : decode cX11_refuseModels 36 = .ok (.aload_n 0, 1) := by decide +kernel
theorem dX11_refuseModels_37 : decode cX11_refuseModels 37 = .ok (.getfield 28, 3) := by decide +kernel
theorem dX11_refuseModels_40 : decode cX11_refuseModels 40 = .ok (.iload_n 1, 1) := by decide +kernel
theorem dX11_refuseModels_41 : decode cX11_refuseModels 41 = .ok (.iload_n 2, 1) := by decide +kernel
theorem dX11_refuseModels_42 : decode cX11_refuseModels 42 = .ok (.invokevirtual 130, 3) := by decide +kernel
theorem dX11_refuseModels_45 : decode cX11_refuseModels 45 = .ok (.aload_n 0, 1) := by decide +kernel
theorem dX11_refuseModels_46 : decode cX11_refuseModels 46 = .ok (.getfield 41, 3) := by decide +kernel
theorem dX11_refuseModels_49 : decode cX11_refuseModels 49 = .ok (.iload_n 3, 1) := by decide +kernel
theorem dX11_refuseModels_50 : decode cX11_refuseModels 50 = .ok (.aaload, 1) := by decide +kernel
theorem dX11_refuseModels_51 : decode cX11_refuseModels 51 = .ok (.aload_n 0, 1) := by decide +kernel
theorem dX11_refuseModels_52 : decode cX11_refuseModels 52 = .ok (.getfield 28, 3) := by decide +kernel
theorem dX11_refuseModels_55 : decode cX11_refuseModels 55 = .ok (.invokevirtual 374, 3) := by decide +kernel
theorem dX11_refuseModels_58 : decode cX11_refuseModels 58 = .ok (.ifCond .ne 6, 3) := by decide +kernel
theorem dX11_refuseModels_61 : decode cX11_refuseModels 61 = .ok (.bipush (-4), 2) := by decide +kernel
theorem dX11_refuseModels_63 : decode cX11_refuseModels 63 = .ok (.ireturn, 1) := by decide +kernel
theorem dX11_refuseModels_64 : decode cX11_refuseModels 64 = .ok (.aload_n 0, 1) := by decide +kernel
theorem dX11_refuseModels_65 : decode cX11_refuseModels 65 = .ok (.getfield 28, 3) := by decide +kernel
theorem dX11_refuseModels_68 : decode cX11_refuseModels 68 = .ok (.invokevirtual 377, 3) := by decide +kernel
theorem dX11_refuseModels_71 : decode cX11_refuseModels 71 = .ok (.ifCond .eq 8, 3) := by decide +kernel
theorem dX11_refuseModels_74 : decode cX11_refuseModels 74 = .ok (.bipush (-5), 2) := by decide +kernel
theorem dX11_refuseModels_76 : decode cX11_refuseModels 76 = .ok (.goto 4, 3) := by decide +kernel
theorem dX11_refuseModels_79 : decode cX11_refuseModels 79 = .ok (.iconst 0, 1) := by decide +kernel
theorem dX11_refuseModels_80 : decode cX11_refuseModels 80 = .ok (.ireturn, 1) := by decide +kernel
def fX11_refuseModels (F : Nat) (a0 : Nat) (a1 : Int) (a2 : Int) (a3 : Int) (h : HF) : RO :=
  zbd (fX11_isList F a3 h) fun r1 h =>
  if r1 = 0 then (
    some ((-3), h)
  ) else (
    zrl h (a0 + 77) a3 fun x2 =>
    zbd (fX4_isHeld F x2 h) fun r3 h =>
    if r3 = 0 then (
      some ((-2), h)
    ) else (
      zbd (fX11_isShape F a1 a2 h) fun r4 h =>
      if r4 = 0 then (
        some ((-3), h)
      ) else (
        zbd (fX0_shape F (a0 + 6) a1 a2 h) fun _ h =>
        zrl h (a0 + 77) a3 fun x6 =>
        zbd (fX4_fits F x6 (a0 + 6) h) fun r7 h =>
        if r7 = 0 then (
          some ((-4), h)
        ) else (
          zbd (fX0_hasManyTables F (a0 + 6) h) fun r8 h =>
          zjn (fun (y80_0 : Int) (h : HF) => (
            some (y80_0, h)
          )) fun j80 =>
          if r8 = 0 then (
            j80 0 h
          ) else (
            j80 (-5) h
          )
        )
      )
    )
  )
set_option maxHeartbeats 4000000 in
set_option maxRecDepth 100000 in
theorem mX11_refuseModels (F : Nat) (l : Launch) (g : zG) (B : Nat) (h : HF) (a0 : Nat) (a1 : Int) (a2 : Int) (a3 : Int) (ra0 : kt a0 = 14) (ra1 : rng a1) (ra2 : rng a2) (ra3 : rng a3) : CTi l g B yX11_refuseModels cX11_refuseModels 4 (some .int) 4 [.ref (B + a0), .int (ii a1), .int (ii a2), .int (ii a3)] h (fX11_refuseModels F a0 a1 a2 a3 h) := by
  refine z_enterI (by decide) rfl (Nat.le_of_ble_eq_true rfl) ?_
  intro p e s m args below meth c ls o Q cx hp hl hf hQ
  have hl : lv_has ls 4 [(0, .ref (B + a0)), (1, .int (ii a1)), (2, .int (ii a2)), (3, .int (ii a3))] := hl
  unfold fX11_refuseModels at hf
  refine lv_iload_n cx.1 cx.2.1 dX11_refuseModels_0 rfl (lv_at hl 3 rfl) ?_
  refine z_ci cx hp (fun o' hx => zrunS (n := 4) (As := [.int (ii a3)]) (rest := []) cx hp (mX11_isList F l g B h a3 ra3 o' hx) sw_X11_isList ml_X11_217 (by decide) rfl hl.1 rfl (Nat.le_of_ble_eq_true rfl) dX11_refuseModels_1) hf (fun r1 h H locs rr1 hp hf => ?_)
  refine z_if_ne cx rr1 (tgt := 10) dX11_refuseModels_4 (by decide) hf (fun _ hf => ?_) (fun _ hf => ?_)
  · refine z_bipush cx (by decide) dX11_refuseModels_7 ?_
    rw [hQ]; exact z_iret cx hp (by decide) dX11_refuseModels_9 hf
  · refine lv_aload_n cx.1 cx.2.1 dX11_refuseModels_10 rfl (lv_at hl 0 rfl) ?_
    refine z_gets cx hp (T := TX11) 11 5 (a0 + 77) rfl zin_11 (by decide) (by decide) ra0 rfl fl_X11_41 dX11_refuseModels_11 ?_
    refine lv_iload_n cx.1 cx.2.1 dX11_refuseModels_14 rfl (lv_at hl 3 rfl) ?_
    refine z_aald2 cx hp (zs_11_5 a0 (kt_lt ra0 (by decide)) ra0) ra3 dX11_refuseModels_15 hf (fun x2 rx2 hf => ?_)
    refine z_ci cx hp (fun o' hx => zrunV (n := 4) (As := []) (rest := []) cx hp (mX4_isHeld F l g B h x2 rx2 o' hx) 4 rx2 (by decide) rfl vw_X4_isHeld ml_X11_364 (by decide) rfl hl.1 rfl (Nat.le_of_ble_eq_true rfl) dX11_refuseModels_16) hf (fun r3 h H locs rr3 hp hf => ?_)
    refine z_if_ne cx rr3 (tgt := 25) dX11_refuseModels_19 (by decide) hf (fun _ hf => ?_) (fun _ hf => ?_)
    · refine z_bipush cx (by decide) dX11_refuseModels_22 ?_
      rw [hQ]; exact z_iret cx hp (by decide) dX11_refuseModels_24 hf
    · refine lv_iload_n cx.1 cx.2.1 dX11_refuseModels_25 rfl (lv_at hl 1 rfl) ?_
      refine lv_iload_n cx.1 cx.2.1 dX11_refuseModels_26 rfl (lv_at hl 2 rfl) ?_
      refine z_ci cx hp (fun o' hx => zrunS (n := 4) (As := [.int (ii a1), .int (ii a2)]) (rest := []) cx hp (mX11_isShape F l g B h a1 a2 ra1 ra2 o' hx) sw_X11_isShape ml_X11_126 (by decide) rfl hl.1 rfl (Nat.le_of_ble_eq_true rfl) dX11_refuseModels_27) hf (fun r4 h H locs rr4 hp hf => ?_)
      refine z_if_ne cx rr4 (tgt := 36) dX11_refuseModels_30 (by decide) hf (fun _ hf => ?_) (fun _ hf => ?_)
      · refine z_bipush cx (by decide) dX11_refuseModels_33 ?_
        rw [hQ]; exact z_iret cx hp (by decide) dX11_refuseModels_35 hf
      · refine lv_aload_n cx.1 cx.2.1 dX11_refuseModels_36 rfl (lv_at hl 0 rfl) ?_
        refine z_gets cx hp (T := TX11) 11 3 (a0 + 6) rfl zin_11 (by decide) (by decide) ra0 rfl fl_X11_28 dX11_refuseModels_37 ?_
        refine lv_iload_n cx.1 cx.2.1 dX11_refuseModels_40 rfl (lv_at hl 1 rfl) ?_
        refine lv_iload_n cx.1 cx.2.1 dX11_refuseModels_41 rfl (lv_at hl 2 rfl) ?_
        refine z_cv cx hp (fun o' hx => zrunV (n := 4) (As := [.int (ii a1), .int (ii a2)]) (rest := []) cx hp (mX0_shape F l g B h (a0 + 6) a1 a2 (zs_11_3 a0 (kt_lt ra0 (by decide)) ra0) ra1 ra2 o' hx) 0 (zs_11_3 a0 (kt_lt ra0 (by decide)) ra0) (by decide) rfl vw_X0_shape ml_X11_130 (by decide) rfl hl.1 rfl (Nat.le_of_ble_eq_true rfl) dX11_refuseModels_42) hf (fun _ h H locs hp hf => ?_)
        refine lv_aload_n cx.1 cx.2.1 dX11_refuseModels_45 rfl (lv_at hl 0 rfl) ?_
        refine z_gets cx hp (T := TX11) 11 5 (a0 + 77) rfl zin_11 (by decide) (by decide) ra0 rfl fl_X11_41 dX11_refuseModels_46 ?_
        refine lv_iload_n cx.1 cx.2.1 dX11_refuseModels_49 rfl (lv_at hl 3 rfl) ?_
        refine z_aald2 cx hp (zs_11_5 a0 (kt_lt ra0 (by decide)) ra0) ra3 dX11_refuseModels_50 hf (fun x6 rx6 hf => ?_)
        refine lv_aload_n cx.1 cx.2.1 dX11_refuseModels_51 rfl (lv_at hl 0 rfl) ?_
        refine z_gets cx hp (T := TX11) 11 3 (a0 + 6) rfl zin_11 (by decide) (by decide) ra0 rfl fl_X11_28 dX11_refuseModels_52 ?_
        refine z_ci cx hp (fun o' hx => zrunV (n := 4) (As := [.ref (B + (a0 + 6))]) (rest := []) cx hp (mX4_fits F l g B h x6 (a0 + 6) rx6 (zs_11_3 a0 (kt_lt ra0 (by decide)) ra0) o' hx) 4 rx6 (by decide) rfl vw_X4_fits ml_X11_374 (by decide) rfl hl.1 rfl (Nat.le_of_ble_eq_true rfl) dX11_refuseModels_55) hf (fun r7 h H locs rr7 hp hf => ?_)
        refine z_if_ne cx rr7 (tgt := 64) dX11_refuseModels_58 (by decide) hf (fun _ hf => ?_) (fun _ hf => ?_)
        · refine z_bipush cx (by decide) dX11_refuseModels_61 ?_
          rw [hQ]; exact z_iret cx hp (by decide) dX11_refuseModels_63 hf
        · refine lv_aload_n cx.1 cx.2.1 dX11_refuseModels_64 rfl (lv_at hl 0 rfl) ?_
          refine z_gets cx hp (T := TX11) 11 3 (a0 + 6) rfl zin_11 (by decide) (by decide) ra0 rfl fl_X11_28 dX11_refuseModels_65 ?_
          refine z_ci cx hp (fun o' hx => zrunV (n := 4) (As := []) (rest := []) cx hp (mX0_hasManyTables F l g B h (a0 + 6) (zs_11_3 a0 (kt_lt ra0 (by decide)) ra0) o' hx) 0 (zs_11_3 a0 (kt_lt ra0 (by decide)) ra0) (by decide) rfl vw_X0_hasManyTables ml_X11_377 (by decide) rfl hl.1 rfl (Nat.le_of_ble_eq_true rfl) dX11_refuseModels_68) hf (fun r8 h H locs rr8 hp hf => ?_)
          refine z_jn hf (fun j => ∀ (y80_0 : Int) (h : HF) (H : Heap) (locs : List Loc) (ls : Array Slot), rng y80_0 → Hp g B s h H locs → lv_has ls 4 [] → j y80_0 h = some o → W p l e (rmn 4) s m args below meth c H locs 0 0 Q (F0 m 80 ls [.int (ii y80_0)])) ?_ (fun j80 hj80 hf => ?_)
          · intro y80_0 h H locs ls ry80_0 hp hl hf
            rw [hQ]; exact z_iret cx hp ry80_0 dX11_refuseModels_80 hf
          refine z_if_eq cx rr8 (tgt := 79) dX11_refuseModels_71 (by decide) hf (fun _ hf => ?_) (fun _ hf => ?_)
          · refine z_iconst cx dX11_refuseModels_79 ?_
            exact hj80 0 h _ _ ls (by decide) hp (lv_sub hl [] rfl) hf
          · refine z_bipush cx (by decide) dX11_refuseModels_74 ?_
            refine lv_goto (tgt := 80) cx.1 cx.2.1 dX11_refuseModels_76 (by decide) ?_
            exact hj80 (-5) h _ _ ls (by decide) hp (lv_sub hl [] rfl) hf
