theorem dX12_findMap_0 : decode cX12_findMap 0 = .ok (.aload_n 0, 1) := by decide +kernel
theorem dX12_findMap_1 : decode cX12_findMap 1 = .ok (.iconst 0, 1) := by decide +kernel
theorem dX12_findMap_2 : decode cX12_findMap 2 = .ok (.putfield 311, 3) := by decide +kernel
theorem dX12_findMap_5 : decode cX12_findMap 5 = .ok (.aload_n 0, 1) := by decide +kernel
theorem dX12_findMap_6 : decode cX12_findMap 6 = .ok (.iload 4, 2) := by decide +kernel
theorem dX12_findMap_8 : decode cX12_findMap 8 = .ok (.putfield 350, 3) := by decide +kernel
theorem dX12_findMap_11 : decode cX12_findMap 11 = .ok (.aload_n 0, 1) := by decide +kernel
theorem dX12_findMap_12 : decode cX12_findMap 12 = .ok (.iload_n 1, 1) := by decide +kernel
theorem dX12_findMap_13 : decode cX12_findMap 13 = .ok (.iload_n 2, 1) := by decide +kernel
theorem dX12_findMap_14 : decode cX12_findMap 14 = .ok (.iload_n 3, 1) := by decide +kernel
theorem dX12_findMap_15 : decode cX12_findMap 15 = .ok (.iconst 0, 1) := by decide +kernel
theorem dX12_findMap_16 : decode cX12_findMap 16 = .ok (.invokevirtual 356, 3) := by decide +kernel
theorem dX12_findMap_19 : decode cX12_findMap 19 = .ok (.ireturn, 1) := by decide +kernel
def fX12_findMap (F : Nat) (a0 : Nat) (a1 : Int) (a2 : Int) (a3 : Int) (a4 : Int) (h : HF) : RO :=
  zpf h a0 43 0 fun h =>
  zpf h a0 47 a4 fun h =>
  zbd (fX12_maps F 10 a0 a1 a2 a3 0 h) fun r1 h =>
  zrz r1 h
set_option maxHeartbeats 4000000 in
set_option maxRecDepth 100000 in
theorem mX12_findMap (F : Nat) (l : Launch) (g : zG) (B : Nat) (h : HF) (a0 : Nat) (a1 : Int) (a2 : Int) (a3 : Int) (a4 : Int) (ra0 : kt a0 = 15) (ra1 : rng a1) (ra2 : rng a2) (ra3 : rng a3) (ra4 : rng a4) : CTi l g B yX12_findMap cX12_findMap 5 (some .boolean) 15 [.ref (B + a0), .int (ii a1), .int (ii a2), .int (ii a3), .int (ii a4)] h (fX12_findMap F a0 a1 a2 a3 a4 h) := by
  refine z_enterI (by decide) rfl (Nat.le_of_ble_eq_true rfl) ?_
  intro p e s m args below meth c ls o Q cx hp hl hf hQ
  have hl : lv_has ls 5 [(0, .ref (B + a0)), (1, .int (ii a1)), (2, .int (ii a2)), (3, .int (ii a3)), (4, .int (ii a4))] := hl
  unfold fX12_findMap at hf
  refine lv_aload_n cx.1 cx.2.1 dX12_findMap_0 rfl (lv_at hl 0 rfl) ?_
  refine z_iconst cx dX12_findMap_1 ?_
  refine z_puti cx hp (T := TX12) tyX12 tyX12_ok nmX12 12 43 (by decide) rfl zin_12 (by decide) (by decide) ra0 rfl rfl rfl fl_X12_311 dX12_findMap_2 hf (fun h H locs hp hf => ?_)
  refine lv_aload_n cx.1 cx.2.1 dX12_findMap_5 rfl (lv_at hl 0 rfl) ?_
  refine lv_iload cx.1 cx.2.1 dX12_findMap_6 (lv_at hl 4 rfl) ?_
  refine z_puti cx hp (T := TX12) tyX12 tyX12_ok nmX12 12 47 ra4 rfl zin_12 (by decide) (by decide) ra0 rfl rfl rfl fl_X12_350 dX12_findMap_8 hf (fun h H locs hp hf => ?_)
  refine lv_aload_n cx.1 cx.2.1 dX12_findMap_11 rfl (lv_at hl 0 rfl) ?_
  refine lv_iload_n cx.1 cx.2.1 dX12_findMap_12 rfl (lv_at hl 1 rfl) ?_
  refine lv_iload_n cx.1 cx.2.1 dX12_findMap_13 rfl (lv_at hl 2 rfl) ?_
  refine lv_iload_n cx.1 cx.2.1 dX12_findMap_14 rfl (lv_at hl 3 rfl) ?_
  refine z_iconst cx dX12_findMap_15 ?_
  refine z_ci cx hp (fun o' hx => zrunV (n := 15) (As := [.int (ii a1), .int (ii a2), .int (ii a3), .int (ii 0)]) (rest := []) cx hp (mX12_maps F l g B 10 h a0 a1 a2 a3 0 ra0 ra1 ra2 ra3 (by decide) o' hx) 12 ra0 (by decide) rfl vw_X12_maps ml_X12_356 (by decide) rfl hl.1 rfl (Nat.le_of_ble_eq_true rfl) dX12_findMap_16) hf (fun r1 h H locs rr1 hp hf => ?_)
  rw [hQ]; exact z_zret cx hp dX12_findMap_19 hf
theorem dX12_refuseTwoDrawers_0 : decode cX12_refuseTwoDrawers 0 = .ok (.aload_n 0, 1) := by decide +kernel
theorem dX12_refuseTwoDrawers_1 : decode cX12_refuseTwoDrawers 1 = .ok (.iload_n 1, 1) := by decide +kernel
theorem dX12_refuseTwoDrawers_2 : decode cX12_refuseTwoDrawers 2 = .ok (.invokevirtual 146, 3) := by decide +kernel
theorem dX12_refuseTwoDrawers_5 : decode cX12_refuseTwoDrawers 5 = .ok (.ifCond .eq 11, 3) := by decide +kernel
theorem dX12_refuseTwoDrawers_8 : decode cX12_refuseTwoDrawers 8 = .ok (.aload_n 0, 1) := by decide +kernel
theorem dX12_refuseTwoDrawers_9 : decode cX12_refuseTwoDrawers 9 = .ok (.iload_n 2, 1) := by decide +kernel
theorem dX12_refuseTwoDrawers_10 : decode cX12_refuseTwoDrawers 10 = .ok (.invokevirtual 146, 3) := by decide +kernel
theorem dX12_refuseTwoDrawers_13 : decode cX12_refuseTwoDrawers 13 = .ok (.ifCond .ne 6, 3) := by decide +kernel
theorem dX12_refuseTwoDrawers_19 : decode cX12_refuseTwoDrawers 19 = .ok (.aload_n 0, 1) := by decide +kernel
theorem dX12_refuseTwoDrawers_20 : decode cX12_refuseTwoDrawers 20 = .ok (.getfield 16, 3) := by decide +kernel
theorem dX12_refuseTwoDrawers_23 : decode cX12_refuseTwoDrawers 23 = .ok (.iload_n 1, 1) := by decide +kernel
theorem dX12_refuseTwoDrawers_24 : decode cX12_refuseTwoDrawers 24 = .ok (.iaload, 1) := by decide +kernel
theorem dX12_refuseTwoDrawers_25 : decode cX12_refuseTwoDrawers 25 = .ok (.ifCond .eq 12, 3) := by decide +kernel
theorem dX12_refuseTwoDrawers_28 : decode cX12_refuseTwoDrawers 28 = .ok (.aload_n 0, 1) := by decide +kernel
theorem dX12_refuseTwoDrawers_29 : decode cX12_refuseTwoDrawers 29 = .ok (.getfield 16, 3) := by decide +kernel
theorem dX12_refuseTwoDrawers_32 : decode cX12_refuseTwoDrawers 32 = .ok (.iload_n 2, 1) := by decide +kernel
theorem dX12_refuseTwoDrawers_33 : decode cX12_refuseTwoDrawers 33 = .ok (.iaload, 1) := by decide +kernel
theorem dX12_refuseTwoDrawers_34 : decode cX12_refuseTwoDrawers 34 = .ok (.ifCond .ne 8, 3) := by decide +kernel
theorem dX12_refuseTwoDrawers_42 : decode cX12_refuseTwoDrawers 42 = .ok (.aload_n 0, 1) := by decide +kernel
theorem dX12_refuseTwoDrawers_43 : decode cX12_refuseTwoDrawers 43 = .ok (.iload_n 1, 1) := by decide +kernel
theorem dX12_refuseTwoDrawers_44 : decode cX12_refuseTwoDrawers 44 = .ok (.iload_n 2, 1) := by decide +kernel
theorem dX12_refuseTwoDrawers_45 : decode cX12_refuseTwoDrawers 45 = .ok (.invokevirtual 359, 3) := by decide +kernel
theorem dX12_refuseTwoDrawers_48 : decode cX12_refuseTwoDrawers 48 = .ok (.ifCond .eq 7, 3) := by decide +kernel
theorem dX12_refuseTwoDrawers_51 : decode cX12_refuseTwoDrawers 51 = .ok (.iconst 0, 1) := by decide +kernel
theorem dX12_refuseTwoDrawers_52 : decode cX12_refuseTwoDrawers 52 = .ok (.goto 5, 3) := by decide +kernel
theorem dX12_refuseTwoDrawers_55 : decode cX12_refuseTwoDrawers 55 = .ok (.bipush (-4), 2) := by decide +kernel
theorem dX12_refuseTwoDrawers_37 : decode cX12_refuseTwoDrawers 37 = .ok (.bipush (-2), 2) := by decide +kernel
theorem dX12_refuseTwoDrawers_39 : decode cX12_refuseTwoDrawers 39 = .ok (.goto 18, 3) := by decide +kernel
theorem dX12_refuseTwoDrawers_57 : decode cX12_refuseTwoDrawers 57 = .ok (.ireturn, 1) := by decide +kernel
theorem dX12_refuseTwoDrawers_16 : decode cX12_refuseTwoDrawers 16 = .ok (.bipush (-3), 2) := by decide +kernel
theorem dX12_refuseTwoDrawers_18 : decode cX12_refuseTwoDrawers 18 = .ok (.ireturn, 1) := by decide +kernel
def fX12_refuseTwoDrawers (F : Nat) (a0 : Nat) (a1 : Int) (a2 : Int) (h : HF) : RO :=
  zbd (fX12_isDrawer F a0 a1 h) fun r1 h =>
  zjn (fun  (h : HF) => (
    some ((-3), h)
  )) fun j16 =>
  if r1 = 0 then (
    j16  h
  ) else (
    zbd (fX12_isDrawer F a0 a2 h) fun r2 h =>
    if r2 = 0 then (
      j16  h
    ) else (
      zrd h (a0 + 3) a1 fun x3 =>
      zjn (fun (y57_0 : Int) (h : HF) => (
        some (y57_0, h)
      )) fun j57 =>
      zjn (fun  (h : HF) => (
        j57 (-2) h
      )) fun j37 =>
      if x3 = 0 then (
        j37  h
      ) else (
        zrd h (a0 + 3) a2 fun x4 =>
        if x4 = 0 then (
          j37  h
        ) else (
          zbd (fX12_isOneSignature F a0 a1 a2 h) fun r5 h =>
          if r5 = 0 then (
            j57 (-4) h
          ) else (
            j57 0 h
          )
        )
      )
    )
  )
set_option maxHeartbeats 4000000 in
set_option maxRecDepth 100000 in
theorem mX12_refuseTwoDrawers (F : Nat) (l : Launch) (g : zG) (B : Nat) (h : HF) (a0 : Nat) (a1 : Int) (a2 : Int) (ra0 : kt a0 = 15) (ra1 : rng a1) (ra2 : rng a2) : CTi l g B yX12_refuseTwoDrawers cX12_refuseTwoDrawers 3 (some .int) 2 [.ref (B + a0), .int (ii a1), .int (ii a2)] h (fX12_refuseTwoDrawers F a0 a1 a2 h) := by
  refine z_enterI (by decide) rfl (Nat.le_of_ble_eq_true rfl) ?_
  intro p e s m args below meth c ls o Q cx hp hl hf hQ
  have hl : lv_has ls 3 [(0, .ref (B + a0)), (1, .int (ii a1)), (2, .int (ii a2))] := hl
  unfold fX12_refuseTwoDrawers at hf
  refine lv_aload_n cx.1 cx.2.1 dX12_refuseTwoDrawers_0 rfl (lv_at hl 0 rfl) ?_
  refine lv_iload_n cx.1 cx.2.1 dX12_refuseTwoDrawers_1 rfl (lv_at hl 1 rfl) ?_
  refine z_ci cx hp (fun o' hx => zrunV (n := 2) (As := [.int (ii a1)]) (rest := []) cx hp (mX12_isDrawer F l g B h a0 a1 ra0 ra1 o' hx) 12 ra0 (by decide) rfl vw_X12_isDrawer ml_X12_146 (by decide) rfl hl.1 rfl (Nat.le_of_ble_eq_true rfl) dX12_refuseTwoDrawers_2) hf (fun r1 h H locs rr1 hp hf => ?_)
  refine z_jn hf (fun j => ∀  (h : HF) (H : Heap) (locs : List Loc) (ls : Array Slot), Hp g B s h H locs → lv_has ls 3 [] → j  h = some o → W p l e (rmn 2) s m args below meth c H locs 0 0 Q (F0 m 16 ls [])) ?_ (fun j16 hj16 hf => ?_)
  · intro  h H locs ls  hp hl hf
    refine z_bipush cx (by decide) dX12_refuseTwoDrawers_16 ?_
    rw [hQ]; exact z_iret cx hp (by decide) dX12_refuseTwoDrawers_18 hf
  refine z_if_eq cx rr1 (tgt := 16) dX12_refuseTwoDrawers_5 (by decide) hf (fun _ hf => ?_) (fun _ hf => ?_)
  · exact hj16  h _ _ ls  hp (lv_sub hl [] rfl) hf
  · refine lv_aload_n cx.1 cx.2.1 dX12_refuseTwoDrawers_8 rfl (lv_at hl 0 rfl) ?_
    refine lv_iload_n cx.1 cx.2.1 dX12_refuseTwoDrawers_9 rfl (lv_at hl 2 rfl) ?_
    refine z_ci cx hp (fun o' hx => zrunV (n := 2) (As := [.int (ii a2)]) (rest := []) cx hp (mX12_isDrawer F l g B h a0 a2 ra0 ra2 o' hx) 12 ra0 (by decide) rfl vw_X12_isDrawer ml_X12_146 (by decide) rfl hl.1 rfl (Nat.le_of_ble_eq_true rfl) dX12_refuseTwoDrawers_10) hf (fun r2 h H locs rr2 hp hf => ?_)
    refine z_if_ne cx rr2 (tgt := 19) dX12_refuseTwoDrawers_13 (by decide) hf (fun _ hf => ?_) (fun _ hf => ?_)
    · exact hj16  h _ _ ls  hp (lv_sub hl [] rfl) hf
    · refine lv_aload_n cx.1 cx.2.1 dX12_refuseTwoDrawers_19 rfl (lv_at hl 0 rfl) ?_
      refine z_gets cx hp (T := TX12) 12 6 (a0 + 3) rfl zin_12 (by decide) (by decide) ra0 rfl fl_X12_16 dX12_refuseTwoDrawers_20 ?_
      refine lv_iload_n cx.1 cx.2.1 dX12_refuseTwoDrawers_23 rfl (lv_at hl 1 rfl) ?_
      refine z_iald cx hp (zs_12_6 a0 (kt_lt ra0 (by decide)) ra0) ra1 dX12_refuseTwoDrawers_24 hf (fun x3 rx3 hf => ?_)
      refine z_jn hf (fun j => ∀ (y57_0 : Int) (h : HF) (H : Heap) (locs : List Loc) (ls : Array Slot), rng y57_0 → Hp g B s h H locs → lv_has ls 3 [] → j y57_0 h = some o → W p l e (rmn 2) s m args below meth c H locs 0 0 Q (F0 m 57 ls [.int (ii y57_0)])) ?_ (fun j57 hj57 hf => ?_)
      · intro y57_0 h H locs ls ry57_0 hp hl hf
        rw [hQ]; exact z_iret cx hp ry57_0 dX12_refuseTwoDrawers_57 hf
      refine z_jn hf (fun j => ∀  (h : HF) (H : Heap) (locs : List Loc) (ls : Array Slot), Hp g B s h H locs → lv_has ls 3 [] → j  h = some o → W p l e (rmn 2) s m args below meth c H locs 0 0 Q (F0 m 37 ls [])) ?_ (fun j37 hj37 hf => ?_)
      · intro  h H locs ls  hp hl hf
        refine z_bipush cx (by decide) dX12_refuseTwoDrawers_37 ?_
        refine lv_goto (tgt := 57) cx.1 cx.2.1 dX12_refuseTwoDrawers_39 (by decide) ?_
        exact hj57 (-2) h _ _ ls (by decide) hp (lv_sub hl [] rfl) hf
      refine z_if_eq cx rx3 (tgt := 37) dX12_refuseTwoDrawers_25 (by decide) hf (fun _ hf => ?_) (fun _ hf => ?_)
      · exact hj37  h _ _ ls  hp (lv_sub hl [] rfl) hf
      · refine lv_aload_n cx.1 cx.2.1 dX12_refuseTwoDrawers_28 rfl (lv_at hl 0 rfl) ?_
        refine z_gets cx hp (T := TX12) 12 6 (a0 + 3) rfl zin_12 (by decide) (by decide) ra0 rfl fl_X12_16 dX12_refuseTwoDrawers_29 ?_
        refine lv_iload_n cx.1 cx.2.1 dX12_refuseTwoDrawers_32 rfl (lv_at hl 2 rfl) ?_
        refine z_iald cx hp (zs_12_6 a0 (kt_lt ra0 (by decide)) ra0) ra2 dX12_refuseTwoDrawers_33 hf (fun x4 rx4 hf => ?_)
        refine z_if_ne cx rx4 (tgt := 42) dX12_refuseTwoDrawers_34 (by decide) hf (fun _ hf => ?_) (fun _ hf => ?_)
        · exact hj37  h _ _ ls  hp (lv_sub hl [] rfl) hf
        · refine lv_aload_n cx.1 cx.2.1 dX12_refuseTwoDrawers_42 rfl (lv_at hl 0 rfl) ?_
          refine lv_iload_n cx.1 cx.2.1 dX12_refuseTwoDrawers_43 rfl (lv_at hl 1 rfl) ?_
          refine lv_iload_n cx.1 cx.2.1 dX12_refuseTwoDrawers_44 rfl (lv_at hl 2 rfl) ?_
          refine z_ci cx hp (fun o' hx => zrunV (n := 2) (As := [.int (ii a1), .int (ii a2)]) (rest := []) cx hp (mX12_isOneSignature F l g B h a0 a1 a2 ra0 ra1 ra2 o' hx) 12 ra0 (by decide) rfl vw_X12_isOneSignature ml_X12_359 (by decide) rfl hl.1 rfl (Nat.le_of_ble_eq_true rfl) dX12_refuseTwoDrawers_45) hf (fun r5 h H locs rr5 hp hf => ?_)
          refine z_if_eq cx rr5 (tgt := 55) dX12_refuseTwoDrawers_48 (by decide) hf (fun _ hf => ?_) (fun _ hf => ?_)
          · refine z_bipush cx (by decide) dX12_refuseTwoDrawers_55 ?_
            exact hj57 (-4) h _ _ ls (by decide) hp (lv_sub hl [] rfl) hf
          · refine z_iconst cx dX12_refuseTwoDrawers_51 ?_
            refine lv_goto (tgt := 57) cx.1 cx.2.1 dX12_refuseTwoDrawers_52 (by decide) ?_
            exact hj57 0 h _ _ ls (by decide) hp (lv_sub hl [] rfl) hf
theorem dX12_map_0 : decode cX12_map 0 = .ok (.aload_n 0, 1) := by decide +kernel
theorem dX12_map_1 : decode cX12_map 1 = .ok (.iconst 0, 1) := by decide +kernel
theorem dX12_map_2 : decode cX12_map 2 = .ok (.putfield 115, 3) := by decide +kernel
theorem dX12_map_5 : decode cX12_map 5 = .ok (.aload_n 0, 1) := by decide +kernel
theorem dX12_map_6 : decode cX12_map 6 = .ok (.iload_n 1, 1) := by decide +kernel
theorem dX12_map_7 : decode cX12_map 7 = .ok (.iload_n 2, 1) := by decide +kernel
theorem dX12_map_8 : decode cX12_map 8 = .ok (.invokevirtual 362, 3) := by decide +kernel
theorem dX12_map_11 : decode cX12_map 11 = .ok (.istore 5, 2) := by decide +kernel
theorem dX12_map_13 : decode cX12_map 13 = .ok (.iload 5, 2) := by decide +kernel
theorem dX12_map_15 : decode cX12_map 15 = .ok (.ifCond .eq 6, 3) := by decide +kernel
theorem dX12_map_18 : decode cX12_map 18 = .ok (.iload 5, 2) := by decide +kernel
theorem dX12_map_20 : decode cX12_map 20 = .ok (.ireturn, 1) := by decide +kernel
theorem dX12_map_21 : decode cX12_map 21 = .ok (.iload_n 3, 1) := by decide +kernel
theorem dX12_map_22 : decode cX12_map 22 = .ok (.ifCond .lt 14, 3) := by decide +kernel
theorem dX12_map_25 : decode cX12_map 25 = .ok (.iload_n 3, 1) := by decide +kernel
theorem dX12_map_26 : decode cX12_map 26 = .ok (.iconst 3, 1) := by decide +kernel
theorem dX12_map_27 : decode cX12_map 27 = .ok (.if_icmp .gt 9, 3) := by decide +kernel
theorem dX12_map_30 : decode cX12_map 30 = .ok (.iload 4, 2) := by decide +kernel
theorem dX12_map_32 : decode cX12_map 32 = .ok (.iconst (-1), 1) := by decide +kernel
theorem dX12_map_33 : decode cX12_map 33 = .ok (.if_icmp .ge 6, 3) := by decide +kernel
theorem dX12_map_39 : decode cX12_map 39 = .ok (.aload_n 0, 1) := by decide +kernel
theorem dX12_map_40 : decode cX12_map 40 = .ok (.iload_n 1, 1) := by decide +kernel
theorem dX12_map_41 : decode cX12_map 41 = .ok (.iload_n 2, 1) := by decide +kernel
theorem dX12_map_42 : decode cX12_map 42 = .ok (.iload_n 3, 1) := by decide +kernel
theorem dX12_map_43 : decode cX12_map 43 = .ok (.iload 4, 2) := by decide +kernel
theorem dX12_map_45 : decode cX12_map 45 = .ok (.invokevirtual 365, 3) := by decide +kernel
theorem dX12_map_48 : decode cX12_map 48 = .ok (.istore 6, 2) := by decide +kernel
theorem dX12_map_50 : decode cX12_map 50 = .ok (.iload 6, 2) := by decide +kernel
theorem dX12_map_52 : decode cX12_map 52 = .ok (.ifCond .eq 20, 3) := by decide +kernel
theorem dX12_map_55 : decode cX12_map 55 = .ok (.aload_n 0, 1) := by decide +kernel
theorem dX12_map_56 : decode cX12_map 56 = .ok (.aload_n 0, 1) := by decide +kernel
theorem dX12_map_57 : decode cX12_map 57 = .ok (.getfield 94, 3) := by decide +kernel
theorem dX12_map_60 : decode cX12_map 60 = .ok (.aload_n 0, 1) := by decide +kernel
theorem dX12_map_61 : decode cX12_map 61 = .ok (.getfield 16, 3) := by decide +kernel
theorem dX12_map_64 : decode cX12_map 64 = .ok (.iload_n 1, 1) := by decide +kernel
theorem dX12_map_65 : decode cX12_map 65 = .ok (.iaload, 1) := by decide +kernel
theorem dX12_map_66 : decode cX12_map 66 = .ok (.invokevirtual 329, 3) := by decide +kernel
theorem dX12_map_69 : decode cX12_map 69 = .ok (.goto 18, 3) := by decide +kernel
theorem dX12_map_72 : decode cX12_map 72 = .ok (.iload 4, 2) := by decide +kernel
theorem dX12_map_74 : decode cX12_map 74 = .ok (.iconst (-1), 1) := by decide +kernel
theorem dX12_map_75 : decode cX12_map 75 = .ok (.if_icmp .ne 10, 3) := by decide +kernel
theorem dX12_map_78 : decode cX12_map 78 = .ok (.aload_n 0, 1) := by decide +kernel
theorem dX12_map_79 : decode cX12_map 79 = .ok (.getfield 311, 3) := by decide +kernel
theorem dX12_map_82 : decode cX12_map 82 = .ok (.goto 5, 3) := by decide +kernel
theorem dX12_map_85 : decode cX12_map 85 = .ok (.bipush (-3), 2) := by decide +kernel
theorem dX12_map_87 : decode cX12_map 87 = .ok (.ireturn, 1) := by decide +kernel
theorem dX12_map_36 : decode cX12_map 36 = .ok (.bipush (-3), 2) := by decide +kernel
theorem dX12_map_38 : decode cX12_map 38 = .ok (.ireturn, 1) := by decide +kernel
def fX12_map (F : Nat) (a0 : Nat) (a1 : Int) (a2 : Int) (a3 : Int) (a4 : Int) (h : HF) : RO :=
  zpf h a0 0 0 fun h =>
  zbd (fX12_refuseTwoDrawers F a0 a1 a2 h) fun r1 h =>
  if r1 = 0 then (
    zjn (fun  (h : HF) => (
      some ((-3), h)
    )) fun j36 =>
    if a3 < 0 then (
      j36  h
    ) else (
      if 3 < a3 then (
        j36  h
      ) else (
        if a4 < (-1) then (
          j36  h
        ) else (
          zbd (fX12_findMap F a0 a1 a2 a3 a4 h) fun r2 h =>
          zjn (fun (y87_0 : Int) (h : HF) => (
            some (y87_0, h)
          )) fun j87 =>
          if r2 = 0 then (
            if a4 = (-1) then (
              zgf h a0 43 fun x3 =>
              j87 x3 h
            ) else (
              j87 (-3) h
            )
          ) else (
            zrd h (a0 + 3) a1 fun x4 =>
            zbd (fX12_told F a0 (a0 + 29) x4 h) fun r5 h =>
            j87 r5 h
          )
        )
      )
    )
  ) else (
    some (r1, h)
  )
set_option maxHeartbeats 4000000 in
set_option maxRecDepth 100000 in
theorem mX12_map (F : Nat) (l : Launch) (g : zG) (B : Nat) (h : HF) (a0 : Nat) (a1 : Int) (a2 : Int) (a3 : Int) (a4 : Int) (ra0 : kt a0 = 15) (ra1 : rng a1) (ra2 : rng a2) (ra3 : rng a3) (ra4 : rng a4) : CTi l g B yX12_map cX12_map 7 (some .int) 16 [.ref (B + a0), .int (ii a1), .int (ii a2), .int (ii a3), .int (ii a4)] h (fX12_map F a0 a1 a2 a3 a4 h) := by
  refine z_enterI (by decide) rfl (Nat.le_of_ble_eq_true rfl) ?_
  intro p e s m args below meth c ls o Q cx hp hl hf hQ
  have hl : lv_has ls 7 [(0, .ref (B + a0)), (1, .int (ii a1)), (2, .int (ii a2)), (3, .int (ii a3)), (4, .int (ii a4))] := hl
  unfold fX12_map at hf
  refine lv_aload_n cx.1 cx.2.1 dX12_map_0 rfl (lv_at hl 0 rfl) ?_
  refine z_iconst cx dX12_map_1 ?_
  refine z_puti cx hp (T := TX12) tyX12 tyX12_ok nmX12 12 0 (by decide) rfl zin_12 (by decide) (by decide) ra0 rfl rfl rfl fl_X12_115 dX12_map_2 hf (fun h H locs hp hf => ?_)
  refine lv_aload_n cx.1 cx.2.1 dX12_map_5 rfl (lv_at hl 0 rfl) ?_
  refine lv_iload_n cx.1 cx.2.1 dX12_map_6 rfl (lv_at hl 1 rfl) ?_
  refine lv_iload_n cx.1 cx.2.1 dX12_map_7 rfl (lv_at hl 2 rfl) ?_
  refine z_ci cx hp (fun o' hx => zrunV (n := 16) (As := [.int (ii a1), .int (ii a2)]) (rest := []) cx hp (mX12_refuseTwoDrawers F l g B h a0 a1 a2 ra0 ra1 ra2 o' hx) 12 ra0 (by decide) rfl vw_X12_refuseTwoDrawers ml_X12_362 (by decide) rfl hl.1 rfl (Nat.le_of_ble_eq_true rfl) dX12_map_8) hf (fun r1 h H locs rr1 hp hf => ?_)
  refine lv_istore (lv' := [(5, .int (ii r1)), (0, .ref (B + a0)), (1, .int (ii a1)), (2, .int (ii a2)), (3, .int (ii a3)), (4, .int (ii a4))]) cx.1 cx.2.1 dX12_map_11 hl (by decide) rfl (fun ls hl => ?_)
  refine lv_iload cx.1 cx.2.1 dX12_map_13 (lv_at hl 0 rfl) ?_
  refine z_if_eq cx rr1 (tgt := 21) dX12_map_15 (by decide) hf (fun _ hf => ?_) (fun _ hf => ?_)
  · refine lv_iload_n cx.1 cx.2.1 dX12_map_21 rfl (lv_at hl 4 rfl) ?_
    refine z_jn hf (fun j => ∀  (h : HF) (H : Heap) (locs : List Loc) (ls : Array Slot), Hp g B s h H locs → lv_has ls 7 [] → j  h = some o → W p l e (rmn 16) s m args below meth c H locs 0 0 Q (F0 m 36 ls [])) ?_ (fun j36 hj36 hf => ?_)
    · intro  h H locs ls  hp hl hf
      refine z_bipush cx (by decide) dX12_map_36 ?_
      rw [hQ]; exact z_iret cx hp (by decide) dX12_map_38 hf
    refine z_if_lt cx ra3 (tgt := 36) dX12_map_22 (by decide) hf (fun _ hf => ?_) (fun _ hf => ?_)
    · exact hj36  h _ _ ls  hp (lv_sub hl [] rfl) hf
    · refine lv_iload_n cx.1 cx.2.1 dX12_map_25 rfl (lv_at hl 4 rfl) ?_
      refine z_iconst cx dX12_map_26 ?_
      refine z_icmp_gt cx ra3 (by decide) (tgt := 36) dX12_map_27 (by decide) hf (fun _ hf => ?_) (fun _ hf => ?_)
      · exact hj36  h _ _ ls  hp (lv_sub hl [] rfl) hf
      · refine lv_iload cx.1 cx.2.1 dX12_map_30 (lv_at hl 5 rfl) ?_
        refine z_iconst cx dX12_map_32 ?_
        refine z_icmp_ge cx ra4 (by decide) (tgt := 39) dX12_map_33 (by decide) hf (fun _ hf => ?_) (fun _ hf => ?_)
        · exact hj36  h _ _ ls  hp (lv_sub hl [] rfl) hf
        · refine lv_aload_n cx.1 cx.2.1 dX12_map_39 rfl (lv_at hl 1 rfl) ?_
          refine lv_iload_n cx.1 cx.2.1 dX12_map_40 rfl (lv_at hl 2 rfl) ?_
          refine lv_iload_n cx.1 cx.2.1 dX12_map_41 rfl (lv_at hl 3 rfl) ?_
          refine lv_iload_n cx.1 cx.2.1 dX12_map_42 rfl (lv_at hl 4 rfl) ?_
          refine lv_iload cx.1 cx.2.1 dX12_map_43 (lv_at hl 5 rfl) ?_
          refine z_ci cx hp (fun o' hx => zrunV (n := 16) (As := [.int (ii a1), .int (ii a2), .int (ii a3), .int (ii a4)]) (rest := []) cx hp (mX12_findMap F l g B h a0 a1 a2 a3 a4 ra0 ra1 ra2 ra3 ra4 o' hx) 12 ra0 (by decide) rfl vw_X12_findMap ml_X12_365 (by decide) rfl hl.1 rfl (Nat.le_of_ble_eq_true rfl) dX12_map_45) hf (fun r2 h H locs rr2 hp hf => ?_)
          refine lv_istore (lv' := [(6, .int (ii r2)), (5, .int (ii r1)), (0, .ref (B + a0)), (1, .int (ii a1)), (2, .int (ii a2)), (3, .int (ii a3)), (4, .int (ii a4))]) cx.1 cx.2.1 dX12_map_48 hl (by decide) rfl (fun ls hl => ?_)
          refine lv_iload cx.1 cx.2.1 dX12_map_50 (lv_at hl 0 rfl) ?_
          refine z_jn hf (fun j => ∀ (y87_0 : Int) (h : HF) (H : Heap) (locs : List Loc) (ls : Array Slot), rng y87_0 → Hp g B s h H locs → lv_has ls 7 [] → j y87_0 h = some o → W p l e (rmn 16) s m args below meth c H locs 0 0 Q (F0 m 87 ls [.int (ii y87_0)])) ?_ (fun j87 hj87 hf => ?_)
          · intro y87_0 h H locs ls ry87_0 hp hl hf
            rw [hQ]; exact z_iret cx hp ry87_0 dX12_map_87 hf
          refine z_if_eq cx rr2 (tgt := 72) dX12_map_52 (by decide) hf (fun _ hf => ?_) (fun _ hf => ?_)
          · refine lv_iload cx.1 cx.2.1 dX12_map_72 (lv_at hl 6 rfl) ?_
            refine z_iconst cx dX12_map_74 ?_
            refine z_icmp_ne cx ra4 (by decide) (tgt := 85) dX12_map_75 (by decide) hf (fun _ hf => ?_) (fun _ hf => ?_)
            · refine lv_aload_n cx.1 cx.2.1 dX12_map_78 rfl (lv_at hl 2 rfl) ?_
              refine z_geti cx hp (T := TX12) 12 43 rfl zin_12 (by decide) (by decide) ra0 rfl fl_X12_311 dX12_map_79 hf (fun x3 rx3 hf => ?_)
              refine lv_goto (tgt := 87) cx.1 cx.2.1 dX12_map_82 (by decide) ?_
              exact hj87 x3 h _ _ ls rx3 hp (lv_sub hl [] rfl) hf
            · refine z_bipush cx (by decide) dX12_map_85 ?_
              exact hj87 (-3) h _ _ ls (by decide) hp (lv_sub hl [] rfl) hf
          · refine lv_aload_n cx.1 cx.2.1 dX12_map_55 rfl (lv_at hl 2 rfl) ?_
            refine lv_aload_n cx.1 cx.2.1 dX12_map_56 rfl (lv_at hl 2 rfl) ?_
            refine z_gets cx hp (T := TX12) 12 46 (a0 + 29) rfl zin_12 (by decide) (by decide) ra0 rfl fl_X12_94 dX12_map_57 ?_
            refine lv_aload_n cx.1 cx.2.1 dX12_map_60 rfl (lv_at hl 2 rfl) ?_
            refine z_gets cx hp (T := TX12) 12 6 (a0 + 3) rfl zin_12 (by decide) (by decide) ra0 rfl fl_X12_16 dX12_map_61 ?_
            refine lv_iload_n cx.1 cx.2.1 dX12_map_64 rfl (lv_at hl 3 rfl) ?_
            refine z_iald cx hp (zs_12_6 a0 (kt_lt ra0 (by decide)) ra0) ra1 dX12_map_65 hf (fun x4 rx4 hf => ?_)
            refine z_ci cx hp (fun o' hx => zrunV (n := 16) (As := [.ref (B + (a0 + 29)), .int (ii x4)]) (rest := []) cx hp (mX12_told F l g B h a0 (a0 + 29) x4 ra0 (zs_12_46 a0 (kt_lt ra0 (by decide)) ra0) rx4 o' hx) 12 ra0 (by decide) rfl vw_X12_told ml_X12_329 (by decide) rfl hl.1 rfl (Nat.le_of_ble_eq_true rfl) dX12_map_66) hf (fun r5 h H locs rr5 hp hf => ?_)
            refine lv_goto (tgt := 87) cx.1 cx.2.1 dX12_map_69 (by decide) ?_
            exact hj87 r5 h _ _ ls rr5 hp (lv_sub hl [] rfl) hf
  · refine lv_iload cx.1 cx.2.1 dX12_map_18 (lv_at hl 0 rfl) ?_
    rw [hQ]; exact z_iret cx hp rr1 dX12_map_20 hf
theorem dX12_alike_0 : decode cX12_alike 0 = .ok (.aload_n 0, 1) := by decide +kernel
theorem dX12_alike_1 : decode cX12_alike 1 = .ok (.iconst 0, 1) := by decide +kernel
theorem dX12_alike_2 : decode cX12_alike 2 = .ok (.putfield 115, 3) := by decide +kernel
theorem dX12_alike_5 : decode cX12_alike 5 = .ok (.aload_n 0, 1) := by decide +kernel
theorem dX12_alike_6 : decode cX12_alike 6 = .ok (.iload_n 1, 1) := by decide +kernel
theorem dX12_alike_7 : decode cX12_alike 7 = .ok (.iload_n 2, 1) := by decide +kernel
theorem dX12_alike_8 : decode cX12_alike 8 = .ok (.invokevirtual 362, 3) := by decide +kernel
theorem dX12_alike_11 : decode cX12_alike 11 = .ok (.istore_n 3, 1) := by decide +kernel
theorem dX12_alike_12 : decode cX12_alike 12 = .ok (.iload_n 3, 1) := by decide +kernel
theorem dX12_alike_13 : decode cX12_alike 13 = .ok (.ifCond .eq 5, 3) := by decide +kernel
theorem dX12_alike_16 : decode cX12_alike 16 = .ok (.iload_n 3, 1) := by decide +kernel
theorem dX12_alike_17 : decode cX12_alike 17 = .ok (.ireturn, 1) := by decide +kernel
theorem dX12_alike_18 : decode cX12_alike 18 = .ok (.aload_n 0, 1) := by decide +kernel
theorem dX12_alike_19 : decode cX12_alike 19 = .ok (.getfield 16, 3) := by decide +kernel
theorem dX12_alike_22 : decode cX12_alike 22 = .ok (.iload_n 1, 1) := by decide +kernel
theorem dX12_alike_23 : decode cX12_alike 23 = .ok (.iaload, 1) := by decide +kernel
theorem dX12_alike_24 : decode cX12_alike 24 = .ok (.aload_n 0, 1) := by decide +kernel
theorem dX12_alike_25 : decode cX12_alike 25 = .ok (.getfield 16, 3) := by decide +kernel
theorem dX12_alike_28 : decode cX12_alike 28 = .ok (.iload_n 2, 1) := by decide +kernel
theorem dX12_alike_29 : decode cX12_alike 29 = .ok (.iaload, 1) := by decide +kernel
theorem dX12_alike_30 : decode cX12_alike 30 = .ok (.if_icmp .ne 7, 3) := by decide +kernel
theorem dX12_alike_33 : decode cX12_alike 33 = .ok (.iconst 1, 1) := by decide +kernel
theorem dX12_alike_34 : decode cX12_alike 34 = .ok (.goto 4, 3) := by decide +kernel
theorem dX12_alike_37 : decode cX12_alike 37 = .ok (.iconst 0, 1) := by decide +kernel
theorem dX12_alike_38 : decode cX12_alike 38 = .ok (.istore 4, 2) := by decide +kernel
theorem dX12_alike_40 : decode cX12_alike 40 = .ok (.iconst 0, 1) := by decide +kernel
theorem dX12_alike_41 : decode cX12_alike 41 = .ok (.istore 5, 2) := by decide +kernel
theorem dX12_alike_43 : decode cX12_alike 43 = .ok (.iload 5, 2) := by decide +kernel
theorem dX12_alike_45 : decode cX12_alike 45 = .ok (.aload_n 0, 1) := by decide +kernel
theorem dX12_alike_46 : decode cX12_alike 46 = .ok (.iload_n 1, 1) := by decide +kernel
theorem dX12_alike_47 : decode cX12_alike 47 = .ok (.invokevirtual 160, 3) := by decide +kernel
theorem dX12_alike_50 : decode cX12_alike 50 = .ok (.if_icmp .ge 48, 3) := by decide +kernel
theorem dX12_alike_53 : decode cX12_alike 53 = .ok (.iload 4, 2) := by decide +kernel
theorem dX12_alike_55 : decode cX12_alike 55 = .ok (.ifCond .eq 43, 3) := by decide +kernel
theorem dX12_alike_58 : decode cX12_alike 58 = .ok (.aload_n 0, 1) := by decide +kernel
theorem dX12_alike_59 : decode cX12_alike 59 = .ok (.getfield 25, 3) := by decide +kernel
theorem dX12_alike_62 : decode cX12_alike 62 = .ok (.aload_n 0, 1) := by decide +kernel
theorem dX12_alike_63 : decode cX12_alike 63 = .ok (.iload_n 1, 1) := by decide +kernel
theorem dX12_alike_64 : decode cX12_alike 64 = .ok (.iload 5, 2) := by decide +kernel
theorem dX12_alike_66 : decode cX12_alike 66 = .ok (.invokevirtual 184, 3) := by decide +kernel
theorem dX12_alike_69 : decode cX12_alike 69 = .ok (.iaload, 1) := by decide +kernel
theorem dX12_alike_70 : decode cX12_alike 70 = .ok (.aload_n 0, 1) := by decide +kernel
theorem dX12_alike_71 : decode cX12_alike 71 = .ok (.getfield 25, 3) := by decide +kernel
theorem dX12_alike_74 : decode cX12_alike 74 = .ok (.aload_n 0, 1) := by decide +kernel
theorem dX12_alike_75 : decode cX12_alike 75 = .ok (.iload_n 2, 1) := by decide +kernel
theorem dX12_alike_76 : decode cX12_alike 76 = .ok (.iload 5, 2) := by decide +kernel
theorem dX12_alike_78 : decode cX12_alike 78 = .ok (.invokevirtual 184, 3) := by decide +kernel
theorem dX12_alike_81 : decode cX12_alike 81 = .ok (.iaload, 1) := by decide +kernel
theorem dX12_alike_82 : decode cX12_alike 82 = .ok (.if_icmp .ne 7, 3) := by decide +kernel
theorem dX12_alike_85 : decode cX12_alike 85 = .ok (.iconst 1, 1) := by decide +kernel
theorem dX12_alike_86 : decode cX12_alike 86 = .ok (.goto 4, 3) := by decide +kernel
theorem dX12_alike_89 : decode cX12_alike 89 = .ok (.iconst 0, 1) := by decide +kernel
theorem dX12_alike_90 : decode cX12_alike 90 = .ok (.istore 4, 2) := by decide +kernel
theorem dX12_alike_92 : decode cX12_alike 92 = .ok (.iinc 5 1, 3) := by decide +kernel
theorem dX12_alike_95 : decode cX12_alike 95 = .ok (.goto (-52), 3) := by decide +kernel
theorem dX12_alike_98 : decode cX12_alike 98 = .ok (.iload 4, 2) := by decide +kernel
theorem dX12_alike_100 : decode cX12_alike 100 = .ok (.ifCond .eq 7, 3) := by decide +kernel
theorem dX12_alike_103 : decode cX12_alike 103 = .ok (.iconst 2, 1) := by decide +kernel
theorem dX12_alike_104 : decode cX12_alike 104 = .ok (.goto 19, 3) := by decide +kernel
theorem dX12_alike_107 : decode cX12_alike 107 = .ok (.aload_n 0, 1) := by decide +kernel
theorem dX12_alike_108 : decode cX12_alike 108 = .ok (.iload_n 1, 1) := by decide +kernel
theorem dX12_alike_109 : decode cX12_alike 109 = .ok (.iload_n 2, 1) := by decide +kernel
theorem dX12_alike_110 : decode cX12_alike 110 = .ok (.iconst 3, 1) := by decide +kernel
theorem dX12_alike_111 : decode cX12_alike 111 = .ok (.iconst 0, 1) := by decide +kernel
theorem dX12_alike_112 : decode cX12_alike 112 = .ok (.invokevirtual 365, 3) := by decide +kernel
theorem dX12_alike_115 : decode cX12_alike 115 = .ok (.ifCond .eq 7, 3) := by decide +kernel
theorem dX12_alike_118 : decode cX12_alike 118 = .ok (.iconst 1, 1) := by decide +kernel
theorem dX12_alike_119 : decode cX12_alike 119 = .ok (.goto 4, 3) := by decide +kernel
theorem dX12_alike_122 : decode cX12_alike 122 = .ok (.iconst 0, 1) := by decide +kernel
theorem dX12_alike_123 : decode cX12_alike 123 = .ok (.ireturn, 1) := by decide +kernel
def LX12_alike_43 (F : Nat) (u0 : Nat) (u1 : Int) (u2 : Int) (k98 : Int → HF → RO) : Nat → Int → Int → HF → RO
  | 0, _, _, _ => none
  | n + 1, v4, v5, h =>
    zbd (fX12_cellsOf F u0 u1 h) fun r5 h =>
    if v5 < r5 then (
      if v4 = 0 then (
        k98 v4 h
      ) else (
        zbd (fX12_lineAt F u0 u1 v5 h) fun r6 h =>
        zrd h (u0 + 6) r6 fun x7 =>
        zbd (fX12_lineAt F u0 u2 v5 h) fun r8 h =>
        zrd h (u0 + 6) r8 fun x9 =>
        zjn (fun (x90_5 : Int) (y90_0 : Int) (h : HF) => (
          zlet (wr (x90_5 + 1)) fun x10 =>
          LX12_alike_43 F u0 u1 u2 k98 n y90_0 x10 h
        )) fun j90 =>
        if x7 = x9 then (
          j90 v5 1 h
        ) else (
          j90 v5 0 h
        )
      )
    ) else (
      k98 v4 h
    )
set_option maxHeartbeats 4000000 in
set_option maxRecDepth 100000 in
theorem wX12_alike_43 {p : Program} {l : Launch} {e : Env} {s : State} {m : MethodId} {args : Array Value} {below : List Frame} {meth : Method} {c : Code} {Q : State → Prop} {g : zG} {B : Nat} {o : Int × HF} (F : Nat) (cx : Cx p s m args meth c cX12_alike 6 RX12 (some .int) g B) (u0 : Nat) (ru0 : kt u0 = 15) (u1 : Int) (ru1 : rng u1) (u2 : Int) (ru2 : rng u2) (k98 : Int → HF → RO) (hk98 : ∀ (x4 : Int) (h : HF) (H : Heap) (locs : List Loc) (ls : Array Slot), rng x4 → Hp g B s h H locs → lv_has ls 6 [(0, .ref (B + u0)), (1, .int (ii u1)), (2, .int (ii u2)), (4, .int (ii x4))] → k98 x4 h = some o → W p l e (rmn 16) s m args below meth c H locs 0 0 Q (F0 m 98 ls [])) : ∀ (n : Nat) (v4 : Int) (v5 : Int) (h : HF) (H : Heap) (locs : List Loc) (ls : Array Slot), rng v4 → rng v5 → Hp g B s h H locs → lv_has ls 6 [(0, .ref (B + u0)), (1, .int (ii u1)), (2, .int (ii u2)), (4, .int (ii v4)), (5, .int (ii v5))] → LX12_alike_43 F u0 u1 u2 k98 n v4 v5 h = some o → W p l e (rmn 16) s m args below meth c H locs 0 0 Q (F0 m 43 ls []) := by
  intro n
  induction n with
  | zero =>
    intro v4 v5 h H locs ls rv4 rv5 hp hl hf
    cases hf
  | succ n ih =>
    intro v4 v5 h H locs ls rv4 rv5 hp hl hf
    rw [LX12_alike_43] at hf
    refine lv_iload cx.1 cx.2.1 dX12_alike_43 (lv_at hl 4 rfl) ?_
    refine lv_aload_n cx.1 cx.2.1 dX12_alike_45 rfl (lv_at hl 0 rfl) ?_
    refine lv_iload_n cx.1 cx.2.1 dX12_alike_46 rfl (lv_at hl 1 rfl) ?_
    refine z_ci cx hp (fun o' hx => zrunV (n := 16) (As := [.int (ii u1)]) (rest := [.int (ii v5)]) cx hp (mX12_cellsOf F l g B h u0 u1 ru0 ru1 o' hx) 12 ru0 (by decide) rfl vw_X12_cellsOf ml_X12_160 (by decide) rfl hl.1 rfl (Nat.le_of_ble_eq_true rfl) dX12_alike_47) hf (fun r5 h H locs rr5 hp hf => ?_)
    refine z_icmp_ge cx rv5 rr5 (tgt := 98) dX12_alike_50 (by decide) hf (fun _ hf => ?_) (fun _ hf => ?_)
    · refine lv_iload cx.1 cx.2.1 dX12_alike_53 (lv_at hl 3 rfl) ?_
      refine z_if_eq cx rv4 (tgt := 98) dX12_alike_55 (by decide) hf (fun _ hf => ?_) (fun _ hf => ?_)
      · exact hk98 v4 h _ _ ls rv4 hp (lv_sub hl [0, 1, 2, 3] rfl) hf
      · refine lv_aload_n cx.1 cx.2.1 dX12_alike_58 rfl (lv_at hl 0 rfl) ?_
        refine z_gets cx hp (T := TX12) 12 9 (u0 + 6) rfl zin_12 (by decide) (by decide) ru0 rfl fl_X12_25 dX12_alike_59 ?_
        refine lv_aload_n cx.1 cx.2.1 dX12_alike_62 rfl (lv_at hl 0 rfl) ?_
        refine lv_iload_n cx.1 cx.2.1 dX12_alike_63 rfl (lv_at hl 1 rfl) ?_
        refine lv_iload cx.1 cx.2.1 dX12_alike_64 (lv_at hl 4 rfl) ?_
        refine z_ci cx hp (fun o' hx => zrunV (n := 16) (As := [.int (ii u1), .int (ii v5)]) (rest := [.ref (B + (u0 + 6))]) cx hp (mX12_lineAt F l g B h u0 u1 v5 ru0 ru1 rv5 o' hx) 12 ru0 (by decide) rfl vw_X12_lineAt ml_X12_184 (by decide) rfl hl.1 rfl (Nat.le_of_ble_eq_true rfl) dX12_alike_66) hf (fun r6 h H locs rr6 hp hf => ?_)
        refine z_iald cx hp (zs_12_9 u0 (kt_lt ru0 (by decide)) ru0) rr6 dX12_alike_69 hf (fun x7 rx7 hf => ?_)
        refine lv_aload_n cx.1 cx.2.1 dX12_alike_70 rfl (lv_at hl 0 rfl) ?_
        refine z_gets cx hp (T := TX12) 12 9 (u0 + 6) rfl zin_12 (by decide) (by decide) ru0 rfl fl_X12_25 dX12_alike_71 ?_
        refine lv_aload_n cx.1 cx.2.1 dX12_alike_74 rfl (lv_at hl 0 rfl) ?_
        refine lv_iload_n cx.1 cx.2.1 dX12_alike_75 rfl (lv_at hl 2 rfl) ?_
        refine lv_iload cx.1 cx.2.1 dX12_alike_76 (lv_at hl 4 rfl) ?_
        refine z_ci cx hp (fun o' hx => zrunV (n := 16) (As := [.int (ii u2), .int (ii v5)]) (rest := [.ref (B + (u0 + 6)), .int (ii x7)]) cx hp (mX12_lineAt F l g B h u0 u2 v5 ru0 ru2 rv5 o' hx) 12 ru0 (by decide) rfl vw_X12_lineAt ml_X12_184 (by decide) rfl hl.1 rfl (Nat.le_of_ble_eq_true rfl) dX12_alike_78) hf (fun r8 h H locs rr8 hp hf => ?_)
        refine z_iald cx hp (zs_12_9 u0 (kt_lt ru0 (by decide)) ru0) rr8 dX12_alike_81 hf (fun x9 rx9 hf => ?_)
        refine z_jn hf (fun j => ∀ (x90_5 : Int) (y90_0 : Int) (h : HF) (H : Heap) (locs : List Loc) (ls : Array Slot), rng x90_5 → rng y90_0 → Hp g B s h H locs → lv_has ls 6 [(0, .ref (B + u0)), (1, .int (ii u1)), (2, .int (ii u2)), (5, .int (ii x90_5))] → j x90_5 y90_0 h = some o → W p l e (rmn 16) s m args below meth c H locs 0 0 Q (F0 m 90 ls [.int (ii y90_0)])) ?_ (fun j90 hj90 hf => ?_)
        · intro x90_5 y90_0 h H locs ls rx90_5 ry90_0 hp hl hf
          refine lv_istore (lv' := [(4, .int (ii y90_0)), (0, .ref (B + u0)), (1, .int (ii u1)), (2, .int (ii u2)), (5, .int (ii x90_5))]) cx.1 cx.2.1 dX12_alike_90 hl (by decide) rfl (fun ls hl => ?_)
          refine z_iinc cx (fun x10 => [(5, .int (ii x10)), (4, .int (ii y90_0)), (0, .ref (B + u0)), (1, .int (ii u1)), (2, .int (ii u2))]) dX12_alike_92 hl (k := 4) rfl (by decide) (fun _ => rfl) hf (fun x10 rx10 hf ls hl => ?_)
          refine lv_goto (tgt := 43) cx.1 cx.2.1 dX12_alike_95 (by decide) ?_
          exact ih y90_0 x10 h _ _ ls ry90_0 rx10 hp (lv_sub hl [2, 3, 4, 1, 0] rfl) hf
        refine z_icmp_ne cx rx7 rx9 (tgt := 89) dX12_alike_82 (by decide) hf (fun _ hf => ?_) (fun _ hf => ?_)
        · refine z_iconst cx dX12_alike_85 ?_
          refine lv_goto (tgt := 90) cx.1 cx.2.1 dX12_alike_86 (by decide) ?_
          exact hj90 v5 1 h _ _ ls rv5 (by decide) hp (lv_sub hl [0, 1, 2, 4] rfl) hf
        · refine z_iconst cx dX12_alike_89 ?_
          exact hj90 v5 0 h _ _ ls rv5 (by decide) hp (lv_sub hl [0, 1, 2, 4] rfl) hf
    · exact hk98 v4 h _ _ ls rv4 hp (lv_sub hl [0, 1, 2, 3] rfl) hf
def fX12_alike (F : Nat) (a0 : Nat) (a1 : Int) (a2 : Int) (h : HF) : RO :=
  zpf h a0 0 0 fun h =>
  zbd (fX12_refuseTwoDrawers F a0 a1 a2 h) fun r1 h =>
  if r1 = 0 then (
    zrd h (a0 + 3) a1 fun x2 =>
    zrd h (a0 + 3) a2 fun x3 =>
    zjn (fun (y38_0 : Int) (h : HF) => (
      zjn (fun (x98_4 : Int) (h : HF) => (
        zjn (fun (y123_0 : Int) (h : HF) => (
          some (y123_0, h)
        )) fun j123 =>
        if x98_4 = 0 then (
          zbd (fX12_findMap F a0 a1 a2 3 0 h) fun r4 h =>
          if r4 = 0 then (
            j123 0 h
          ) else (
            j123 1 h
          )
        ) else (
          j123 2 h
        )
      )) fun j98 =>
      LX12_alike_43 F a0 a1 a2 j98 F y38_0 0 h
    )) fun j38 =>
    if x2 = x3 then (
      j38 1 h
    ) else (
      j38 0 h
    )
  ) else (
    some (r1, h)
  )
set_option maxHeartbeats 4000000 in
set_option maxRecDepth 100000 in
theorem mX12_alike (F : Nat) (l : Launch) (g : zG) (B : Nat) (h : HF) (a0 : Nat) (a1 : Int) (a2 : Int) (ra0 : kt a0 = 15) (ra1 : rng a1) (ra2 : rng a2) : CTi l g B yX12_alike cX12_alike 6 (some .int) 16 [.ref (B + a0), .int (ii a1), .int (ii a2)] h (fX12_alike F a0 a1 a2 h) := by
  refine z_enterI (by decide) rfl (Nat.le_of_ble_eq_true rfl) ?_
  intro p e s m args below meth c ls o Q cx hp hl hf hQ
  have hl : lv_has ls 6 [(0, .ref (B + a0)), (1, .int (ii a1)), (2, .int (ii a2))] := hl
  unfold fX12_alike at hf
  refine lv_aload_n cx.1 cx.2.1 dX12_alike_0 rfl (lv_at hl 0 rfl) ?_
  refine z_iconst cx dX12_alike_1 ?_
  refine z_puti cx hp (T := TX12) tyX12 tyX12_ok nmX12 12 0 (by decide) rfl zin_12 (by decide) (by decide) ra0 rfl rfl rfl fl_X12_115 dX12_alike_2 hf (fun h H locs hp hf => ?_)
  refine lv_aload_n cx.1 cx.2.1 dX12_alike_5 rfl (lv_at hl 0 rfl) ?_
  refine lv_iload_n cx.1 cx.2.1 dX12_alike_6 rfl (lv_at hl 1 rfl) ?_
  refine lv_iload_n cx.1 cx.2.1 dX12_alike_7 rfl (lv_at hl 2 rfl) ?_
  refine z_ci cx hp (fun o' hx => zrunV (n := 16) (As := [.int (ii a1), .int (ii a2)]) (rest := []) cx hp (mX12_refuseTwoDrawers F l g B h a0 a1 a2 ra0 ra1 ra2 o' hx) 12 ra0 (by decide) rfl vw_X12_refuseTwoDrawers ml_X12_362 (by decide) rfl hl.1 rfl (Nat.le_of_ble_eq_true rfl) dX12_alike_8) hf (fun r1 h H locs rr1 hp hf => ?_)
  refine lv_istore_n (lv' := [(3, .int (ii r1)), (0, .ref (B + a0)), (1, .int (ii a1)), (2, .int (ii a2))]) cx.1 cx.2.1 dX12_alike_11 rfl hl (by decide) rfl (fun ls hl => ?_)
  refine lv_iload_n cx.1 cx.2.1 dX12_alike_12 rfl (lv_at hl 0 rfl) ?_
  refine z_if_eq cx rr1 (tgt := 18) dX12_alike_13 (by decide) hf (fun _ hf => ?_) (fun _ hf => ?_)
  · refine lv_aload_n cx.1 cx.2.1 dX12_alike_18 rfl (lv_at hl 1 rfl) ?_
    refine z_gets cx hp (T := TX12) 12 6 (a0 + 3) rfl zin_12 (by decide) (by decide) ra0 rfl fl_X12_16 dX12_alike_19 ?_
    refine lv_iload_n cx.1 cx.2.1 dX12_alike_22 rfl (lv_at hl 2 rfl) ?_
    refine z_iald cx hp (zs_12_6 a0 (kt_lt ra0 (by decide)) ra0) ra1 dX12_alike_23 hf (fun x2 rx2 hf => ?_)
    refine lv_aload_n cx.1 cx.2.1 dX12_alike_24 rfl (lv_at hl 1 rfl) ?_
    refine z_gets cx hp (T := TX12) 12 6 (a0 + 3) rfl zin_12 (by decide) (by decide) ra0 rfl fl_X12_16 dX12_alike_25 ?_
    refine lv_iload_n cx.1 cx.2.1 dX12_alike_28 rfl (lv_at hl 3 rfl) ?_
    refine z_iald cx hp (zs_12_6 a0 (kt_lt ra0 (by decide)) ra0) ra2 dX12_alike_29 hf (fun x3 rx3 hf => ?_)
    refine z_jn hf (fun j => ∀ (y38_0 : Int) (h : HF) (H : Heap) (locs : List Loc) (ls : Array Slot), rng y38_0 → Hp g B s h H locs → lv_has ls 6 [(0, .ref (B + a0)), (1, .int (ii a1)), (2, .int (ii a2))] → j y38_0 h = some o → W p l e (rmn 16) s m args below meth c H locs 0 0 Q (F0 m 38 ls [.int (ii y38_0)])) ?_ (fun j38 hj38 hf => ?_)
    · intro y38_0 h H locs ls ry38_0 hp hl hf
      refine lv_istore (lv' := [(4, .int (ii y38_0)), (0, .ref (B + a0)), (1, .int (ii a1)), (2, .int (ii a2))]) cx.1 cx.2.1 dX12_alike_38 hl (by decide) rfl (fun ls hl => ?_)
      refine z_iconst cx dX12_alike_40 ?_
      refine lv_istore (lv' := [(5, .int (ii 0)), (4, .int (ii y38_0)), (0, .ref (B + a0)), (1, .int (ii a1)), (2, .int (ii a2))]) cx.1 cx.2.1 dX12_alike_41 hl (by decide) rfl (fun ls hl => ?_)
      refine z_jn hf (fun j => ∀ (x98_4 : Int) (h : HF) (H : Heap) (locs : List Loc) (ls : Array Slot), rng x98_4 → Hp g B s h H locs → lv_has ls 6 [(0, .ref (B + a0)), (1, .int (ii a1)), (2, .int (ii a2)), (4, .int (ii x98_4))] → j x98_4 h = some o → W p l e (rmn 16) s m args below meth c H locs 0 0 Q (F0 m 98 ls [])) ?_ (fun j98 hj98 hf => ?_)
      · intro x98_4 h H locs ls rx98_4 hp hl hf
        refine lv_iload cx.1 cx.2.1 dX12_alike_98 (lv_at hl 3 rfl) ?_
        refine z_jn hf (fun j => ∀ (y123_0 : Int) (h : HF) (H : Heap) (locs : List Loc) (ls : Array Slot), rng y123_0 → Hp g B s h H locs → lv_has ls 6 [] → j y123_0 h = some o → W p l e (rmn 16) s m args below meth c H locs 0 0 Q (F0 m 123 ls [.int (ii y123_0)])) ?_ (fun j123 hj123 hf => ?_)
        · intro y123_0 h H locs ls ry123_0 hp hl hf
          rw [hQ]; exact z_iret cx hp ry123_0 dX12_alike_123 hf
        refine z_if_eq cx rx98_4 (tgt := 107) dX12_alike_100 (by decide) hf (fun _ hf => ?_) (fun _ hf => ?_)
        · refine lv_aload_n cx.1 cx.2.1 dX12_alike_107 rfl (lv_at hl 0 rfl) ?_
          refine lv_iload_n cx.1 cx.2.1 dX12_alike_108 rfl (lv_at hl 1 rfl) ?_
          refine lv_iload_n cx.1 cx.2.1 dX12_alike_109 rfl (lv_at hl 2 rfl) ?_
          refine z_iconst cx dX12_alike_110 ?_
          refine z_iconst cx dX12_alike_111 ?_
          refine z_ci cx hp (fun o' hx => zrunV (n := 16) (As := [.int (ii a1), .int (ii a2), .int (ii 3), .int (ii 0)]) (rest := []) cx hp (mX12_findMap F l g B h a0 a1 a2 3 0 ra0 ra1 ra2 (by decide) (by decide) o' hx) 12 ra0 (by decide) rfl vw_X12_findMap ml_X12_365 (by decide) rfl hl.1 rfl (Nat.le_of_ble_eq_true rfl) dX12_alike_112) hf (fun r4 h H locs rr4 hp hf => ?_)
          refine z_if_eq cx rr4 (tgt := 122) dX12_alike_115 (by decide) hf (fun _ hf => ?_) (fun _ hf => ?_)
          · refine z_iconst cx dX12_alike_122 ?_
            exact hj123 0 h _ _ ls (by decide) hp (lv_sub hl [] rfl) hf
          · refine z_iconst cx dX12_alike_118 ?_
            refine lv_goto (tgt := 123) cx.1 cx.2.1 dX12_alike_119 (by decide) ?_
            exact hj123 1 h _ _ ls (by decide) hp (lv_sub hl [] rfl) hf
        · refine z_iconst cx dX12_alike_103 ?_
          refine lv_goto (tgt := 123) cx.1 cx.2.1 dX12_alike_104 (by decide) ?_
          exact hj123 2 h _ _ ls (by decide) hp (lv_sub hl [] rfl) hf
      exact wX12_alike_43 F cx a0 ra0 a1 ra1 a2 ra2 j98 hj98 F y38_0 0 h _ _ ls ry38_0 (by decide) hp (lv_sub hl [2, 3, 4, 1, 0] rfl) hf
    refine z_icmp_ne cx rx2 rx3 (tgt := 37) dX12_alike_30 (by decide) hf (fun _ hf => ?_) (fun _ hf => ?_)
    · refine z_iconst cx dX12_alike_33 ?_
      refine lv_goto (tgt := 38) cx.1 cx.2.1 dX12_alike_34 (by decide) ?_
      exact hj38 1 h _ _ ls (by decide) hp (lv_sub hl [1, 2, 3] rfl) hf
    · refine z_iconst cx dX12_alike_37 ?_
      exact hj38 0 h _ _ ls (by decide) hp (lv_sub hl [1, 2, 3] rfl) hf
  · refine lv_iload_n cx.1 cx.2.1 dX12_alike_16 rfl (lv_at hl 0 rfl) ?_
    rw [hQ]; exact z_iret cx hp rr1 dX12_alike_17 hf
theorem dX12_swap_0 : decode cX12_swap 0 = .ok (.aload_n 0, 1) := by decide +kernel
theorem dX12_swap_1 : decode cX12_swap 1 = .ok (.getfield 97, 3) := by decide +kernel
theorem dX12_swap_4 : decode cX12_swap 4 = .ok (.iload_n 1, 1) := by decide +kernel
theorem dX12_swap_5 : decode cX12_swap 5 = .ok (.iaload, 1) := by decide +kernel
theorem dX12_swap_6 : decode cX12_swap 6 = .ok (.istore_n 3, 1) := by decide +kernel
theorem dX12_swap_7 : decode cX12_swap 7 = .ok (.aload_n 0, 1) := by decide +kernel
theorem dX12_swap_8 : decode cX12_swap 8 = .ok (.getfield 97, 3) := by decide +kernel
theorem dX12_swap_11 : decode cX12_swap 11 = .ok (.iload_n 1, 1) := by decide +kernel
theorem dX12_swap_12 : decode cX12_swap 12 = .ok (.aload_n 0, 1) := by decide +kernel
theorem dX12_swap_13 : decode cX12_swap 13 = .ok (.getfield 97, 3) := by decide +kernel
theorem dX12_swap_16 : decode cX12_swap 16 = .ok (.iload_n 2, 1) := by decide +kernel
theorem dX12_swap_17 : decode cX12_swap 17 = .ok (.iaload, 1) := by decide +kernel
theorem dX12_swap_18 : decode cX12_swap 18 = .ok (.iastore, 1) := by decide +kernel
theorem dX12_swap_19 : decode cX12_swap 19 = .ok (.aload_n 0, 1) := by decide +kernel
theorem dX12_swap_20 : decode cX12_swap 20 = .ok (.getfield 97, 3) := by decide +kernel
theorem dX12_swap_23 : decode cX12_swap 23 = .ok (.iload_n 2, 1) := by decide +kernel
theorem dX12_swap_24 : decode cX12_swap 24 = .ok (.iload_n 3, 1) := by decide +kernel
theorem dX12_swap_25 : decode cX12_swap 25 = .ok (.iastore, 1) := by decide +kernel
theorem dX12_swap_26 : decode cX12_swap 26 = .ok (.return_, 1) := by decide +kernel
def fX12_swap (F : Nat) (a0 : Nat) (a1 : Int) (a2 : Int) (h : HF) : RO :=
  zrd h (a0 + 30) a1 fun x1 =>
  zrd h (a0 + 30) a2 fun x2 =>
  zwr h (a0 + 30) a1 x2 fun h =>
  zwr h (a0 + 30) a2 x1 fun h =>
  some (0, h)
set_option maxHeartbeats 4000000 in
set_option maxRecDepth 100000 in
theorem mX12_swap (F : Nat) (l : Launch) (g : zG) (B : Nat) (h : HF) (a0 : Nat) (a1 : Int) (a2 : Int) (ra0 : kt a0 = 15) (ra1 : rng a1) (ra2 : rng a2) : CTv l g B yX12_swap cX12_swap 4 0 [.ref (B + a0), .int (ii a1), .int (ii a2)] h (fX12_swap F a0 a1 a2 h) := by
  refine z_enterV (by decide) rfl (Nat.le_of_ble_eq_true rfl) ?_
  intro p e s m args below meth c ls o Q cx hp hl hf hQ
  have hl : lv_has ls 4 [(0, .ref (B + a0)), (1, .int (ii a1)), (2, .int (ii a2))] := hl
  unfold fX12_swap at hf
  refine lv_aload_n cx.1 cx.2.1 dX12_swap_0 rfl (lv_at hl 0 rfl) ?_
  refine z_gets cx hp (T := TX12) 12 48 (a0 + 30) rfl zin_12 (by decide) (by decide) ra0 rfl fl_X12_97 dX12_swap_1 ?_
  refine lv_iload_n cx.1 cx.2.1 dX12_swap_4 rfl (lv_at hl 1 rfl) ?_
  refine z_iald cx hp (zs_12_48 a0 (kt_lt ra0 (by decide)) ra0) ra1 dX12_swap_5 hf (fun x1 rx1 hf => ?_)
  refine lv_istore_n (lv' := [(3, .int (ii x1)), (0, .ref (B + a0)), (1, .int (ii a1)), (2, .int (ii a2))]) cx.1 cx.2.1 dX12_swap_6 rfl hl (by decide) rfl (fun ls hl => ?_)
  refine lv_aload_n cx.1 cx.2.1 dX12_swap_7 rfl (lv_at hl 1 rfl) ?_
  refine z_gets cx hp (T := TX12) 12 48 (a0 + 30) rfl zin_12 (by decide) (by decide) ra0 rfl fl_X12_97 dX12_swap_8 ?_
  refine lv_iload_n cx.1 cx.2.1 dX12_swap_11 rfl (lv_at hl 2 rfl) ?_
  refine lv_aload_n cx.1 cx.2.1 dX12_swap_12 rfl (lv_at hl 1 rfl) ?_
  refine z_gets cx hp (T := TX12) 12 48 (a0 + 30) rfl zin_12 (by decide) (by decide) ra0 rfl fl_X12_97 dX12_swap_13 ?_
  refine lv_iload_n cx.1 cx.2.1 dX12_swap_16 rfl (lv_at hl 3 rfl) ?_
  refine z_iald cx hp (zs_12_48 a0 (kt_lt ra0 (by decide)) ra0) ra2 dX12_swap_17 hf (fun x2 rx2 hf => ?_)
  refine z_iast cx hp (zs_12_48 a0 (kt_lt ra0 (by decide)) ra0) ra1 rx2 dX12_swap_18 hf (fun h H locs hp hf => ?_)
  refine lv_aload_n cx.1 cx.2.1 dX12_swap_19 rfl (lv_at hl 1 rfl) ?_
  refine z_gets cx hp (T := TX12) 12 48 (a0 + 30) rfl zin_12 (by decide) (by decide) ra0 rfl fl_X12_97 dX12_swap_20 ?_
  refine lv_iload_n cx.1 cx.2.1 dX12_swap_23 rfl (lv_at hl 3 rfl) ?_
  refine lv_iload_n cx.1 cx.2.1 dX12_swap_24 rfl (lv_at hl 0 rfl) ?_
  refine z_iast cx hp (zs_12_48 a0 (kt_lt ra0 (by decide)) ra0) ra2 rx1 dX12_swap_25 hf (fun h H locs hp hf => ?_)
  rw [hQ]; exact z_vret cx hp dX12_swap_26 hf
theorem dX12_firstNames_0 : decode cX12_firstNames 0 = .ok (.iconst 0, 1) := by decide +kernel
theorem dX12_firstNames_1 : decode cX12_firstNames 1 = .ok (.istore_n 2, 1) := by decide +kernel
theorem dX12_firstNames_2 : decode cX12_firstNames 2 = .ok (.iload_n 2, 1) := by decide +kernel
theorem dX12_firstNames_3 : decode cX12_firstNames 3 = .ok (.iload_n 1, 1) := by decide +kernel
theorem dX12_firstNames_4 : decode cX12_firstNames 4 = .ok (.if_icmp .ge 16, 3) := by decide +kernel
theorem dX12_firstNames_7 : decode cX12_firstNames 7 = .ok (.aload_n 0, 1) := by decide +kernel
theorem dX12_firstNames_8 : decode cX12_firstNames 8 = .ok (.getfield 97, 3) := by decide +kernel
theorem dX12_firstNames_11 : decode cX12_firstNames 11 = .ok (.iload_n 2, 1) := by decide +kernel
theorem dX12_firstNames_12 : decode cX12_firstNames 12 = .ok (.iload_n 2, 1) := by decide +kernel
theorem dX12_firstNames_13 : decode cX12_firstNames 13 = .ok (.iastore, 1) := by decide +kernel
theorem dX12_firstNames_14 : decode cX12_firstNames 14 = .ok (.iinc 2 1, 3) := by decide +kernel
theorem dX12_firstNames_17 : decode cX12_firstNames 17 = .ok (.goto (-15), 3) := by decide +kernel
theorem dX12_firstNames_20 : decode cX12_firstNames 20 = .ok (.return_, 1) := by decide +kernel
def LX12_firstNames_2 (F : Nat) (u0 : Nat) (u1 : Int) (k20 : HF → RO) : Nat → Int → HF → RO
  | 0, _, _ => none
  | n + 1, v2, h =>
    if v2 < u1 then (
      zwr h (u0 + 30) v2 v2 fun h =>
      zlet (wr (v2 + 1)) fun x1 =>
      LX12_firstNames_2 F u0 u1 k20 n x1 h
    ) else (
      k20  h
    )
set_option maxHeartbeats 4000000 in
set_option maxRecDepth 100000 in
theorem wX12_firstNames_2 {p : Program} {l : Launch} {e : Env} {s : State} {m : MethodId} {args : Array Value} {below : List Frame} {meth : Method} {c : Code} {Q : State → Prop} {g : zG} {B : Nat} {o : Int × HF} (F : Nat) (cx : Cx p s m args meth c cX12_firstNames 3 RX12 none g B) (u0 : Nat) (ru0 : kt u0 = 15) (u1 : Int) (ru1 : rng u1) (k20 : HF → RO) (hk20 : ∀  (h : HF) (H : Heap) (locs : List Loc) (ls : Array Slot), Hp g B s h H locs → lv_has ls 3 [] → k20  h = some o → W p l e (rmn 0) s m args below meth c H locs 0 0 Q (F0 m 20 ls [])) : ∀ (n : Nat) (v2 : Int) (h : HF) (H : Heap) (locs : List Loc) (ls : Array Slot), rng v2 → Hp g B s h H locs → lv_has ls 3 [(0, .ref (B + u0)), (1, .int (ii u1)), (2, .int (ii v2))] → LX12_firstNames_2 F u0 u1 k20 n v2 h = some o → W p l e (rmn 0) s m args below meth c H locs 0 0 Q (F0 m 2 ls []) := by
  intro n
  induction n with
  | zero =>
    intro v2 h H locs ls rv2 hp hl hf
    cases hf
  | succ n ih =>
    intro v2 h H locs ls rv2 hp hl hf
    rw [LX12_firstNames_2] at hf
    refine lv_iload_n cx.1 cx.2.1 dX12_firstNames_2 rfl (lv_at hl 2 rfl) ?_
    refine lv_iload_n cx.1 cx.2.1 dX12_firstNames_3 rfl (lv_at hl 1 rfl) ?_
    refine z_icmp_ge cx rv2 ru1 (tgt := 20) dX12_firstNames_4 (by decide) hf (fun _ hf => ?_) (fun _ hf => ?_)
    · refine lv_aload_n cx.1 cx.2.1 dX12_firstNames_7 rfl (lv_at hl 0 rfl) ?_
      refine z_gets cx hp (T := TX12) 12 48 (u0 + 30) rfl zin_12 (by decide) (by decide) ru0 rfl fl_X12_97 dX12_firstNames_8 ?_
      refine lv_iload_n cx.1 cx.2.1 dX12_firstNames_11 rfl (lv_at hl 2 rfl) ?_
      refine lv_iload_n cx.1 cx.2.1 dX12_firstNames_12 rfl (lv_at hl 2 rfl) ?_
      refine z_iast cx hp (zs_12_48 u0 (kt_lt ru0 (by decide)) ru0) rv2 rv2 dX12_firstNames_13 hf (fun h H locs hp hf => ?_)
      refine z_iinc cx (fun x1 => [(2, .int (ii x1)), (0, .ref (B + u0)), (1, .int (ii u1))]) dX12_firstNames_14 hl (k := 2) rfl (by decide) (fun _ => rfl) hf (fun x1 rx1 hf ls hl => ?_)
      refine lv_goto (tgt := 2) cx.1 cx.2.1 dX12_firstNames_17 (by decide) ?_
      exact ih x1 h _ _ ls rx1 hp (lv_sub hl [1, 2, 0] rfl) hf
    · exact hk20  h _ _ ls  hp (lv_sub hl [] rfl) hf
def fX12_firstNames (F : Nat) (a0 : Nat) (a1 : Int) (h : HF) : RO :=
  zjn (fun  (h : HF) => (
    some (0, h)
  )) fun j20 =>
  LX12_firstNames_2 F a0 a1 j20 F 0 h
set_option maxHeartbeats 4000000 in
set_option maxRecDepth 100000 in
theorem mX12_firstNames (F : Nat) (l : Launch) (g : zG) (B : Nat) (h : HF) (a0 : Nat) (a1 : Int) (ra0 : kt a0 = 15) (ra1 : rng a1) : CTv l g B yX12_firstNames cX12_firstNames 3 0 [.ref (B + a0), .int (ii a1)] h (fX12_firstNames F a0 a1 h) := by
  refine z_enterV (by decide) rfl (Nat.le_of_ble_eq_true rfl) ?_
  intro p e s m args below meth c ls o Q cx hp hl hf hQ
  have hl : lv_has ls 3 [(0, .ref (B + a0)), (1, .int (ii a1))] := hl
  unfold fX12_firstNames at hf
  refine z_iconst cx dX12_firstNames_0 ?_
  refine lv_istore_n (lv' := [(2, .int (ii 0)), (0, .ref (B + a0)), (1, .int (ii a1))]) cx.1 cx.2.1 dX12_firstNames_1 rfl hl (by decide) rfl (fun ls hl => ?_)
  refine z_jn hf (fun j => ∀  (h : HF) (H : Heap) (locs : List Loc) (ls : Array Slot), Hp g B s h H locs → lv_has ls 3 [] → j  h = some o → W p l e (rmn 0) s m args below meth c H locs 0 0 Q (F0 m 20 ls [])) ?_ (fun j20 hj20 hf => ?_)
  · intro  h H locs ls  hp hl hf
    rw [hQ]; exact z_vret cx hp dX12_firstNames_20 hf
  exact wX12_firstNames_2 F cx a0 ra0 a1 ra1 j20 hj20 F 0 h _ _ ls (by decide) hp (lv_sub hl [1, 2, 0] rfl) hf
theorem dX12_compare_0 : decode cX12_compare 0 = .ok (.aload_n 0, 1) := by decide +kernel
theorem dX12_compare_1 : decode cX12_compare 1 = .ok (.getfield 16, 3) := by decide +kernel
theorem dX12_compare_4 : decode cX12_compare 4 = .ok (.iload_n 1, 1) := by decide +kernel
theorem dX12_compare_5 : decode cX12_compare 5 = .ok (.iaload, 1) := by decide +kernel
theorem dX12_compare_6 : decode cX12_compare 6 = .ok (.istore_n 3, 1) := by decide +kernel
theorem dX12_compare_7 : decode cX12_compare 7 = .ok (.iconst 0, 1) := by decide +kernel
theorem dX12_compare_8 : decode cX12_compare 8 = .ok (.istore 4, 2) := by decide +kernel
theorem dX12_compare_10 : decode cX12_compare 10 = .ok (.iload 4, 2) := by decide +kernel
theorem dX12_compare_12 : decode cX12_compare 12 = .ok (.iload_n 3, 1) := by decide +kernel
theorem dX12_compare_13 : decode cX12_compare 13 = .ok (.if_icmp .ge 23, 3) := by decide +kernel
theorem dX12_compare_16 : decode cX12_compare 16 = .ok (.aload_n 0, 1) := by decide +kernel
theorem dX12_compare_17 : decode cX12_compare 17 = .ok (.getfield 100, 3) := by decide +kernel
theorem dX12_compare_20 : decode cX12_compare 20 = .ok (.aload_n 0, 1) := by decide +kernel
theorem dX12_compare_21 : decode cX12_compare 21 = .ok (.getfield 97, 3) := by decide +kernel
theorem dX12_compare_24 : decode cX12_compare 24 = .ok (.iload 4, 2) := by decide +kernel
theorem dX12_compare_26 : decode cX12_compare 26 = .ok (.iaload, 1) := by decide +kernel
theorem dX12_compare_27 : decode cX12_compare 27 = .ok (.iload 4, 2) := by decide +kernel
theorem dX12_compare_29 : decode cX12_compare 29 = .ok (.iastore, 1) := by decide +kernel
theorem dX12_compare_30 : decode cX12_compare 30 = .ok (.iinc 4 1, 3) := by decide +kernel
theorem dX12_compare_33 : decode cX12_compare 33 = .ok (.goto (-23), 3) := by decide +kernel
theorem dX12_compare_36 : decode cX12_compare 36 = .ok (.iconst 0, 1) := by decide +kernel
theorem dX12_compare_37 : decode cX12_compare 37 = .ok (.istore 4, 2) := by decide +kernel
theorem dX12_compare_39 : decode cX12_compare 39 = .ok (.iconst 0, 1) := by decide +kernel
theorem dX12_compare_40 : decode cX12_compare 40 = .ok (.istore 5, 2) := by decide +kernel
theorem dX12_compare_42 : decode cX12_compare 42 = .ok (.iload 5, 2) := by decide +kernel
theorem dX12_compare_44 : decode cX12_compare 44 = .ok (.aload_n 0, 1) := by decide +kernel
theorem dX12_compare_45 : decode cX12_compare 45 = .ok (.getfield 19, 3) := by decide +kernel
theorem dX12_compare_48 : decode cX12_compare 48 = .ok (.iload_n 1, 1) := by decide +kernel
theorem dX12_compare_49 : decode cX12_compare 49 = .ok (.iaload, 1) := by decide +kernel
theorem dX12_compare_50 : decode cX12_compare 50 = .ok (.if_icmp .ge 108, 3) := by decide +kernel
theorem dX12_compare_53 : decode cX12_compare 53 = .ok (.iconst 0, 1) := by decide +kernel
theorem dX12_compare_54 : decode cX12_compare 54 = .ok (.istore 6, 2) := by decide +kernel
theorem dX12_compare_56 : decode cX12_compare 56 = .ok (.iload 6, 2) := by decide +kernel
theorem dX12_compare_58 : decode cX12_compare 58 = .ok (.aload_n 0, 1) := by decide +kernel
theorem dX12_compare_59 : decode cX12_compare 59 = .ok (.iload_n 1, 1) := by decide +kernel
theorem dX12_compare_60 : decode cX12_compare 60 = .ok (.iload 5, 2) := by decide +kernel
theorem dX12_compare_62 : decode cX12_compare 62 = .ok (.iconst 0, 1) := by decide +kernel
theorem dX12_compare_63 : decode cX12_compare 63 = .ok (.invokevirtual 304, 3) := by decide +kernel
theorem dX12_compare_66 : decode cX12_compare 66 = .ok (.if_icmp .ge 86, 3) := by decide +kernel
theorem dX12_compare_69 : decode cX12_compare 69 = .ok (.iconst 0, 1) := by decide +kernel
theorem dX12_compare_70 : decode cX12_compare 70 = .ok (.istore 7, 2) := by decide +kernel
theorem dX12_compare_72 : decode cX12_compare 72 = .ok (.iload 7, 2) := by decide +kernel
theorem dX12_compare_74 : decode cX12_compare 74 = .ok (.aload_n 0, 1) := by decide +kernel
theorem dX12_compare_75 : decode cX12_compare 75 = .ok (.iload_n 1, 1) := by decide +kernel
theorem dX12_compare_76 : decode cX12_compare 76 = .ok (.iload 5, 2) := by decide +kernel
theorem dX12_compare_78 : decode cX12_compare 78 = .ok (.iconst 1, 1) := by decide +kernel
theorem dX12_compare_79 : decode cX12_compare 79 = .ok (.invokevirtual 304, 3) := by decide +kernel
theorem dX12_compare_82 : decode cX12_compare 82 = .ok (.if_icmp .ge 64, 3) := by decide +kernel
theorem dX12_compare_85 : decode cX12_compare 85 = .ok (.aload_n 0, 1) := by decide +kernel
theorem dX12_compare_86 : decode cX12_compare 86 = .ok (.getfield 97, 3) := by decide +kernel
theorem dX12_compare_89 : decode cX12_compare 89 = .ok (.aload_n 0, 1) := by decide +kernel
theorem dX12_compare_90 : decode cX12_compare 90 = .ok (.iload_n 1, 1) := by decide +kernel
theorem dX12_compare_91 : decode cX12_compare 91 = .ok (.iload 5, 2) := by decide +kernel
theorem dX12_compare_93 : decode cX12_compare 93 = .ok (.aload_n 0, 1) := by decide +kernel
theorem dX12_compare_94 : decode cX12_compare 94 = .ok (.getfield 100, 3) := by decide +kernel
theorem dX12_compare_97 : decode cX12_compare 97 = .ok (.iload 6, 2) := by decide +kernel
theorem dX12_compare_99 : decode cX12_compare 99 = .ok (.iaload, 1) := by decide +kernel
theorem dX12_compare_100 : decode cX12_compare 100 = .ok (.aload_n 0, 1) := by decide +kernel
theorem dX12_compare_101 : decode cX12_compare 101 = .ok (.getfield 100, 3) := by decide +kernel
theorem dX12_compare_104 : decode cX12_compare 104 = .ok (.iload 7, 2) := by decide +kernel
theorem dX12_compare_106 : decode cX12_compare 106 = .ok (.iaload, 1) := by decide +kernel
theorem dX12_compare_107 : decode cX12_compare 107 = .ok (.invokevirtual 178, 3) := by decide +kernel
theorem dX12_compare_110 : decode cX12_compare 110 = .ok (.iaload, 1) := by decide +kernel
theorem dX12_compare_111 : decode cX12_compare 111 = .ok (.istore 8, 2) := by decide +kernel
theorem dX12_compare_113 : decode cX12_compare 113 = .ok (.iload 8, 2) := by decide +kernel
theorem dX12_compare_115 : decode cX12_compare 115 = .ok (.aload_n 2, 1) := by decide +kernel
theorem dX12_compare_116 : decode cX12_compare 116 = .ok (.iload 4, 2) := by decide +kernel
theorem dX12_compare_118 : decode cX12_compare 118 = .ok (.iaload, 1) := by decide +kernel
theorem dX12_compare_119 : decode cX12_compare 119 = .ok (.if_icmp .eq 18, 3) := by decide +kernel
theorem dX12_compare_122 : decode cX12_compare 122 = .ok (.iload 8, 2) := by decide +kernel
theorem dX12_compare_124 : decode cX12_compare 124 = .ok (.aload_n 2, 1) := by decide +kernel
theorem dX12_compare_125 : decode cX12_compare 125 = .ok (.iload 4, 2) := by decide +kernel
theorem dX12_compare_127 : decode cX12_compare 127 = .ok (.iaload, 1) := by decide +kernel
theorem dX12_compare_128 : decode cX12_compare 128 = .ok (.if_icmp .ge 7, 3) := by decide +kernel
theorem dX12_compare_131 : decode cX12_compare 131 = .ok (.iconst (-1), 1) := by decide +kernel
theorem dX12_compare_132 : decode cX12_compare 132 = .ok (.goto 4, 3) := by decide +kernel
theorem dX12_compare_135 : decode cX12_compare 135 = .ok (.iconst 1, 1) := by decide +kernel
theorem dX12_compare_136 : decode cX12_compare 136 = .ok (.ireturn, 1) := by decide +kernel
theorem dX12_compare_137 : decode cX12_compare 137 = .ok (.iinc 4 1, 3) := by decide +kernel
theorem dX12_compare_140 : decode cX12_compare 140 = .ok (.iinc 7 1, 3) := by decide +kernel
theorem dX12_compare_143 : decode cX12_compare 143 = .ok (.goto (-71), 3) := by decide +kernel
theorem dX12_compare_146 : decode cX12_compare 146 = .ok (.iinc 6 1, 3) := by decide +kernel
theorem dX12_compare_149 : decode cX12_compare 149 = .ok (.goto (-93), 3) := by decide +kernel
theorem dX12_compare_152 : decode cX12_compare 152 = .ok (.iinc 5 1, 3) := by decide +kernel
theorem dX12_compare_155 : decode cX12_compare 155 = .ok (.goto (-113), 3) := by decide +kernel
theorem dX12_compare_158 : decode cX12_compare 158 = .ok (.iconst 0, 1) := by decide +kernel
theorem dX12_compare_159 : decode cX12_compare 159 = .ok (.ireturn, 1) := by decide +kernel
def LX12_compare_72 (F : Nat) (u0 : Nat) (u1 : Int) (u2 : Nat) (u5 : Int) (u6 : Int) (k146 : Int → Int → HF → RO) (k122 : Int → Int → HF → RO) : Nat → Int → Int → HF → RO
  | 0, _, _, _ => none
  | n + 1, v4, v7, h =>
    zbd (fX12_upTo F u0 u1 u5 1 h) fun r7 h =>
    if v7 < r7 then (
      zrd h (u0 + 31) u6 fun x8 =>
      zrd h (u0 + 31) v7 fun x9 =>
      zbd (fX12_value F u0 u1 u5 x8 x9 h) fun r10 h =>
      zrd h (u0 + 30) r10 fun x11 =>
      zrd h u2 v4 fun x12 =>
      if x11 = x12 then (
        zlet (wr (v4 + 1)) fun x13 =>
        zlet (wr (v7 + 1)) fun x14 =>
        LX12_compare_72 F u0 u1 u2 u5 u6 k146 k122 n x13 x14 h
      ) else (
        k122 v4 x11 h
      )
    ) else (
      k146 v4 u6 h
    )
set_option maxHeartbeats 4000000 in
set_option maxRecDepth 100000 in
theorem wX12_compare_72 {p : Program} {l : Launch} {e : Env} {s : State} {m : MethodId} {args : Array Value} {below : List Frame} {meth : Method} {c : Code} {Q : State → Prop} {g : zG} {B : Nat} {o : Int × HF} (F : Nat) (cx : Cx p s m args meth c cX12_compare 9 RX12 (some .int) g B) (u0 : Nat) (ru0 : kt u0 = 15) (u1 : Int) (ru1 : rng u1) (u2 : Nat) (ru2 : kt u2 = 0) (u5 : Int) (ru5 : rng u5) (u6 : Int) (ru6 : rng u6) (k146 : Int → Int → HF → RO) (hk146 : ∀ (x4 : Int) (x6 : Int) (h : HF) (H : Heap) (locs : List Loc) (ls : Array Slot), rng x4 → rng x6 → Hp g B s h H locs → lv_has ls 9 [(0, .ref (B + u0)), (1, .int (ii u1)), (2, .ref (B + u2)), (4, .int (ii x4)), (5, .int (ii u5)), (6, .int (ii x6))] → k146 x4 x6 h = some o → W p l e (rmn 3) s m args below meth c H locs 0 0 Q (F0 m 146 ls [])) (k122 : Int → Int → HF → RO) (hk122 : ∀ (x4 : Int) (x8 : Int) (h : HF) (H : Heap) (locs : List Loc) (ls : Array Slot), rng x4 → rng x8 → Hp g B s h H locs → lv_has ls 9 [(2, .ref (B + u2)), (4, .int (ii x4)), (8, .int (ii x8))] → k122 x4 x8 h = some o → W p l e (rmn 3) s m args below meth c H locs 0 0 Q (F0 m 122 ls [])) : ∀ (n : Nat) (v4 : Int) (v7 : Int) (h : HF) (H : Heap) (locs : List Loc) (ls : Array Slot), rng v4 → rng v7 → Hp g B s h H locs → lv_has ls 9 [(0, .ref (B + u0)), (1, .int (ii u1)), (2, .ref (B + u2)), (4, .int (ii v4)), (5, .int (ii u5)), (6, .int (ii u6)), (7, .int (ii v7))] → LX12_compare_72 F u0 u1 u2 u5 u6 k146 k122 n v4 v7 h = some o → W p l e (rmn 3) s m args below meth c H locs 0 0 Q (F0 m 72 ls []) := by
  intro n
  induction n with
  | zero =>
    intro v4 v7 h H locs ls rv4 rv7 hp hl hf
    cases hf
  | succ n ih =>
    intro v4 v7 h H locs ls rv4 rv7 hp hl hf
    rw [LX12_compare_72] at hf
    refine lv_iload cx.1 cx.2.1 dX12_compare_72 (lv_at hl 6 rfl) ?_
    refine lv_aload_n cx.1 cx.2.1 dX12_compare_74 rfl (lv_at hl 0 rfl) ?_
    refine lv_iload_n cx.1 cx.2.1 dX12_compare_75 rfl (lv_at hl 1 rfl) ?_
    refine lv_iload cx.1 cx.2.1 dX12_compare_76 (lv_at hl 4 rfl) ?_
    refine z_iconst cx dX12_compare_78 ?_
    refine z_ci cx hp (fun o' hx => zrunV (n := 3) (As := [.int (ii u1), .int (ii u5), .int (ii 1)]) (rest := [.int (ii v7)]) cx hp (mX12_upTo F l g B h u0 u1 u5 1 ru0 ru1 ru5 (by decide) o' hx) 12 ru0 (by decide) rfl vw_X12_upTo ml_X12_304 (by decide) rfl hl.1 rfl (Nat.le_of_ble_eq_true rfl) dX12_compare_79) hf (fun r7 h H locs rr7 hp hf => ?_)
    refine z_icmp_ge cx rv7 rr7 (tgt := 146) dX12_compare_82 (by decide) hf (fun _ hf => ?_) (fun _ hf => ?_)
    · refine lv_aload_n cx.1 cx.2.1 dX12_compare_85 rfl (lv_at hl 0 rfl) ?_
      refine z_gets cx hp (T := TX12) 12 48 (u0 + 30) rfl zin_12 (by decide) (by decide) ru0 rfl fl_X12_97 dX12_compare_86 ?_
      refine lv_aload_n cx.1 cx.2.1 dX12_compare_89 rfl (lv_at hl 0 rfl) ?_
      refine lv_iload_n cx.1 cx.2.1 dX12_compare_90 rfl (lv_at hl 1 rfl) ?_
      refine lv_iload cx.1 cx.2.1 dX12_compare_91 (lv_at hl 4 rfl) ?_
      refine lv_aload_n cx.1 cx.2.1 dX12_compare_93 rfl (lv_at hl 0 rfl) ?_
      refine z_gets cx hp (T := TX12) 12 49 (u0 + 31) rfl zin_12 (by decide) (by decide) ru0 rfl fl_X12_100 dX12_compare_94 ?_
      refine lv_iload cx.1 cx.2.1 dX12_compare_97 (lv_at hl 5 rfl) ?_
      refine z_iald cx hp (zs_12_49 u0 (kt_lt ru0 (by decide)) ru0) ru6 dX12_compare_99 hf (fun x8 rx8 hf => ?_)
      refine lv_aload_n cx.1 cx.2.1 dX12_compare_100 rfl (lv_at hl 0 rfl) ?_
      refine z_gets cx hp (T := TX12) 12 49 (u0 + 31) rfl zin_12 (by decide) (by decide) ru0 rfl fl_X12_100 dX12_compare_101 ?_
      refine lv_iload cx.1 cx.2.1 dX12_compare_104 (lv_at hl 6 rfl) ?_
      refine z_iald cx hp (zs_12_49 u0 (kt_lt ru0 (by decide)) ru0) rv7 dX12_compare_106 hf (fun x9 rx9 hf => ?_)
      refine z_ci cx hp (fun o' hx => zrunV (n := 3) (As := [.int (ii u1), .int (ii u5), .int (ii x8), .int (ii x9)]) (rest := [.ref (B + (u0 + 30))]) cx hp (mX12_value F l g B h u0 u1 u5 x8 x9 ru0 ru1 ru5 rx8 rx9 o' hx) 12 ru0 (by decide) rfl vw_X12_value ml_X12_178 (by decide) rfl hl.1 rfl (Nat.le_of_ble_eq_true rfl) dX12_compare_107) hf (fun r10 h H locs rr10 hp hf => ?_)
      refine z_iald cx hp (zs_12_48 u0 (kt_lt ru0 (by decide)) ru0) rr10 dX12_compare_110 hf (fun x11 rx11 hf => ?_)
      refine lv_istore (lv' := [(8, .int (ii x11)), (0, .ref (B + u0)), (1, .int (ii u1)), (2, .ref (B + u2)), (4, .int (ii v4)), (5, .int (ii u5)), (6, .int (ii u6)), (7, .int (ii v7))]) cx.1 cx.2.1 dX12_compare_111 hl (by decide) rfl (fun ls hl => ?_)
      refine lv_iload cx.1 cx.2.1 dX12_compare_113 (lv_at hl 0 rfl) ?_
      refine lv_aload_n cx.1 cx.2.1 dX12_compare_115 rfl (lv_at hl 3 rfl) ?_
      refine lv_iload cx.1 cx.2.1 dX12_compare_116 (lv_at hl 4 rfl) ?_
      refine z_iald cx hp ru2 rv4 dX12_compare_118 hf (fun x12 rx12 hf => ?_)
      refine z_icmp_eq cx rx11 rx12 (tgt := 137) dX12_compare_119 (by decide) hf (fun _ hf => ?_) (fun _ hf => ?_)
      · refine z_iinc cx (fun x13 => [(4, .int (ii x13)), (8, .int (ii x11)), (0, .ref (B + u0)), (1, .int (ii u1)), (2, .ref (B + u2)), (5, .int (ii u5)), (6, .int (ii u6)), (7, .int (ii v7))]) dX12_compare_137 hl (k := 4) rfl (by decide) (fun _ => rfl) hf (fun x13 rx13 hf ls hl => ?_)
        refine z_iinc cx (fun x14 => [(7, .int (ii x14)), (4, .int (ii x13)), (8, .int (ii x11)), (0, .ref (B + u0)), (1, .int (ii u1)), (2, .ref (B + u2)), (5, .int (ii u5)), (6, .int (ii u6))]) dX12_compare_140 hl (k := 7) rfl (by decide) (fun _ => rfl) hf (fun x14 rx14 hf ls hl => ?_)
        refine lv_goto (tgt := 72) cx.1 cx.2.1 dX12_compare_143 (by decide) ?_
        exact ih x13 x14 h _ _ ls rx13 rx14 hp (lv_sub hl [3, 4, 5, 1, 6, 7, 0] rfl) hf
      · exact hk122 v4 x11 h _ _ ls rv4 rx11 hp (lv_sub hl [3, 4, 0] rfl) hf
    · exact hk146 v4 u6 h _ _ ls rv4 ru6 hp (lv_sub hl [0, 1, 2, 3, 4, 5] rfl) hf
def LX12_compare_56 (F : Nat) (u0 : Nat) (u1 : Int) (u2 : Nat) (u5 : Int) (k152 : Int → Int → HF → RO) (k122 : Int → Int → HF → RO) : Nat → Int → Int → HF → RO
  | 0, _, _, _ => none
  | n + 1, v4, v6, h =>
    zbd (fX12_upTo F u0 u1 u5 0 h) fun r5 h =>
    if v6 < r5 then (
      zjn (fun (x146_4 : Int) (x146_6 : Int) (h : HF) => (
        zlet (wr (x146_6 + 1)) fun x6 =>
        LX12_compare_56 F u0 u1 u2 u5 k152 k122 n x146_4 x6 h
      )) fun j146 =>
      LX12_compare_72 F u0 u1 u2 u5 v6 j146 k122 F v4 0 h
    ) else (
      k152 v4 u5 h
    )
set_option maxHeartbeats 4000000 in
set_option maxRecDepth 100000 in
theorem wX12_compare_56 {p : Program} {l : Launch} {e : Env} {s : State} {m : MethodId} {args : Array Value} {below : List Frame} {meth : Method} {c : Code} {Q : State → Prop} {g : zG} {B : Nat} {o : Int × HF} (F : Nat) (cx : Cx p s m args meth c cX12_compare 9 RX12 (some .int) g B) (u0 : Nat) (ru0 : kt u0 = 15) (u1 : Int) (ru1 : rng u1) (u2 : Nat) (ru2 : kt u2 = 0) (u5 : Int) (ru5 : rng u5) (k152 : Int → Int → HF → RO) (hk152 : ∀ (x4 : Int) (x5 : Int) (h : HF) (H : Heap) (locs : List Loc) (ls : Array Slot), rng x4 → rng x5 → Hp g B s h H locs → lv_has ls 9 [(0, .ref (B + u0)), (1, .int (ii u1)), (2, .ref (B + u2)), (4, .int (ii x4)), (5, .int (ii x5))] → k152 x4 x5 h = some o → W p l e (rmn 3) s m args below meth c H locs 0 0 Q (F0 m 152 ls [])) (k122 : Int → Int → HF → RO) (hk122 : ∀ (x4 : Int) (x8 : Int) (h : HF) (H : Heap) (locs : List Loc) (ls : Array Slot), rng x4 → rng x8 → Hp g B s h H locs → lv_has ls 9 [(2, .ref (B + u2)), (4, .int (ii x4)), (8, .int (ii x8))] → k122 x4 x8 h = some o → W p l e (rmn 3) s m args below meth c H locs 0 0 Q (F0 m 122 ls [])) : ∀ (n : Nat) (v4 : Int) (v6 : Int) (h : HF) (H : Heap) (locs : List Loc) (ls : Array Slot), rng v4 → rng v6 → Hp g B s h H locs → lv_has ls 9 [(0, .ref (B + u0)), (1, .int (ii u1)), (2, .ref (B + u2)), (4, .int (ii v4)), (5, .int (ii u5)), (6, .int (ii v6))] → LX12_compare_56 F u0 u1 u2 u5 k152 k122 n v4 v6 h = some o → W p l e (rmn 3) s m args below meth c H locs 0 0 Q (F0 m 56 ls []) := by
  intro n
  induction n with
  | zero =>
    intro v4 v6 h H locs ls rv4 rv6 hp hl hf
    cases hf
  | succ n ih =>
    intro v4 v6 h H locs ls rv4 rv6 hp hl hf
    rw [LX12_compare_56] at hf
    refine lv_iload cx.1 cx.2.1 dX12_compare_56 (lv_at hl 5 rfl) ?_
    refine lv_aload_n cx.1 cx.2.1 dX12_compare_58 rfl (lv_at hl 0 rfl) ?_
    refine lv_iload_n cx.1 cx.2.1 dX12_compare_59 rfl (lv_at hl 1 rfl) ?_
    refine lv_iload cx.1 cx.2.1 dX12_compare_60 (lv_at hl 4 rfl) ?_
    refine z_iconst cx dX12_compare_62 ?_
    refine z_ci cx hp (fun o' hx => zrunV (n := 3) (As := [.int (ii u1), .int (ii u5), .int (ii 0)]) (rest := [.int (ii v6)]) cx hp (mX12_upTo F l g B h u0 u1 u5 0 ru0 ru1 ru5 (by decide) o' hx) 12 ru0 (by decide) rfl vw_X12_upTo ml_X12_304 (by decide) rfl hl.1 rfl (Nat.le_of_ble_eq_true rfl) dX12_compare_63) hf (fun r5 h H locs rr5 hp hf => ?_)
    refine z_icmp_ge cx rv6 rr5 (tgt := 152) dX12_compare_66 (by decide) hf (fun _ hf => ?_) (fun _ hf => ?_)
    · refine z_iconst cx dX12_compare_69 ?_
      refine lv_istore (lv' := [(7, .int (ii 0)), (0, .ref (B + u0)), (1, .int (ii u1)), (2, .ref (B + u2)), (4, .int (ii v4)), (5, .int (ii u5)), (6, .int (ii v6))]) cx.1 cx.2.1 dX12_compare_70 hl (by decide) rfl (fun ls hl => ?_)
      refine z_jn hf (fun j => ∀ (x146_4 : Int) (x146_6 : Int) (h : HF) (H : Heap) (locs : List Loc) (ls : Array Slot), rng x146_4 → rng x146_6 → Hp g B s h H locs → lv_has ls 9 [(0, .ref (B + u0)), (1, .int (ii u1)), (2, .ref (B + u2)), (4, .int (ii x146_4)), (5, .int (ii u5)), (6, .int (ii x146_6))] → j x146_4 x146_6 h = some o → W p l e (rmn 3) s m args below meth c H locs 0 0 Q (F0 m 146 ls [])) ?_ (fun j146 hj146 hf => ?_)
      · intro x146_4 x146_6 h H locs ls rx146_4 rx146_6 hp hl hf
        refine z_iinc cx (fun x6 => [(6, .int (ii x6)), (0, .ref (B + u0)), (1, .int (ii u1)), (2, .ref (B + u2)), (4, .int (ii x146_4)), (5, .int (ii u5))]) dX12_compare_146 hl (k := 5) rfl (by decide) (fun _ => rfl) hf (fun x6 rx6 hf ls hl => ?_)
        refine lv_goto (tgt := 56) cx.1 cx.2.1 dX12_compare_149 (by decide) ?_
        exact ih x146_4 x6 h _ _ ls rx146_4 rx6 hp (lv_sub hl [1, 2, 3, 4, 5, 0] rfl) hf
      exact wX12_compare_72 F cx u0 ru0 u1 ru1 u2 ru2 u5 ru5 v6 rv6 j146 hj146 k122 hk122 F v4 0 h _ _ ls rv4 (by decide) hp (lv_sub hl [1, 2, 3, 4, 5, 6, 0] rfl) hf
    · exact hk152 v4 u5 h _ _ ls rv4 ru5 hp (lv_sub hl [0, 1, 2, 3, 4] rfl) hf
def LX12_compare_42 (F : Nat) (u0 : Nat) (u1 : Int) (u2 : Nat) (k158 : HF → RO) (k122 : Int → Int → HF → RO) : Nat → Int → Int → HF → RO
  | 0, _, _, _ => none
  | n + 1, v4, v5, h =>
    zrd h (u0 + 4) u1 fun x3 =>
    if v5 < x3 then (
      zjn (fun (x152_4 : Int) (x152_5 : Int) (h : HF) => (
        zlet (wr (x152_5 + 1)) fun x4 =>
        LX12_compare_42 F u0 u1 u2 k158 k122 n x152_4 x4 h
      )) fun j152 =>
      LX12_compare_56 F u0 u1 u2 v5 j152 k122 F v4 0 h
    ) else (
      k158  h
    )
set_option maxHeartbeats 4000000 in
set_option maxRecDepth 100000 in
theorem wX12_compare_42 {p : Program} {l : Launch} {e : Env} {s : State} {m : MethodId} {args : Array Value} {below : List Frame} {meth : Method} {c : Code} {Q : State → Prop} {g : zG} {B : Nat} {o : Int × HF} (F : Nat) (cx : Cx p s m args meth c cX12_compare 9 RX12 (some .int) g B) (u0 : Nat) (ru0 : kt u0 = 15) (u1 : Int) (ru1 : rng u1) (u2 : Nat) (ru2 : kt u2 = 0) (k158 : HF → RO) (hk158 : ∀  (h : HF) (H : Heap) (locs : List Loc) (ls : Array Slot), Hp g B s h H locs → lv_has ls 9 [] → k158  h = some o → W p l e (rmn 3) s m args below meth c H locs 0 0 Q (F0 m 158 ls [])) (k122 : Int → Int → HF → RO) (hk122 : ∀ (x4 : Int) (x8 : Int) (h : HF) (H : Heap) (locs : List Loc) (ls : Array Slot), rng x4 → rng x8 → Hp g B s h H locs → lv_has ls 9 [(2, .ref (B + u2)), (4, .int (ii x4)), (8, .int (ii x8))] → k122 x4 x8 h = some o → W p l e (rmn 3) s m args below meth c H locs 0 0 Q (F0 m 122 ls [])) : ∀ (n : Nat) (v4 : Int) (v5 : Int) (h : HF) (H : Heap) (locs : List Loc) (ls : Array Slot), rng v4 → rng v5 → Hp g B s h H locs → lv_has ls 9 [(0, .ref (B + u0)), (1, .int (ii u1)), (2, .ref (B + u2)), (4, .int (ii v4)), (5, .int (ii v5))] → LX12_compare_42 F u0 u1 u2 k158 k122 n v4 v5 h = some o → W p l e (rmn 3) s m args below meth c H locs 0 0 Q (F0 m 42 ls []) := by
  intro n
  induction n with
  | zero =>
    intro v4 v5 h H locs ls rv4 rv5 hp hl hf
    cases hf
  | succ n ih =>
    intro v4 v5 h H locs ls rv4 rv5 hp hl hf
    rw [LX12_compare_42] at hf
    refine lv_iload cx.1 cx.2.1 dX12_compare_42 (lv_at hl 4 rfl) ?_
    refine lv_aload_n cx.1 cx.2.1 dX12_compare_44 rfl (lv_at hl 0 rfl) ?_
    refine z_gets cx hp (T := TX12) 12 7 (u0 + 4) rfl zin_12 (by decide) (by decide) ru0 rfl fl_X12_19 dX12_compare_45 ?_
    refine lv_iload_n cx.1 cx.2.1 dX12_compare_48 rfl (lv_at hl 1 rfl) ?_
    refine z_iald cx hp (zs_12_7 u0 (kt_lt ru0 (by decide)) ru0) ru1 dX12_compare_49 hf (fun x3 rx3 hf => ?_)
    refine z_icmp_ge cx rv5 rx3 (tgt := 158) dX12_compare_50 (by decide) hf (fun _ hf => ?_) (fun _ hf => ?_)
    · refine z_iconst cx dX12_compare_53 ?_
      refine lv_istore (lv' := [(6, .int (ii 0)), (0, .ref (B + u0)), (1, .int (ii u1)), (2, .ref (B + u2)), (4, .int (ii v4)), (5, .int (ii v5))]) cx.1 cx.2.1 dX12_compare_54 hl (by decide) rfl (fun ls hl => ?_)
      refine z_jn hf (fun j => ∀ (x152_4 : Int) (x152_5 : Int) (h : HF) (H : Heap) (locs : List Loc) (ls : Array Slot), rng x152_4 → rng x152_5 → Hp g B s h H locs → lv_has ls 9 [(0, .ref (B + u0)), (1, .int (ii u1)), (2, .ref (B + u2)), (4, .int (ii x152_4)), (5, .int (ii x152_5))] → j x152_4 x152_5 h = some o → W p l e (rmn 3) s m args below meth c H locs 0 0 Q (F0 m 152 ls [])) ?_ (fun j152 hj152 hf => ?_)
      · intro x152_4 x152_5 h H locs ls rx152_4 rx152_5 hp hl hf
        refine z_iinc cx (fun x4 => [(5, .int (ii x4)), (0, .ref (B + u0)), (1, .int (ii u1)), (2, .ref (B + u2)), (4, .int (ii x152_4))]) dX12_compare_152 hl (k := 4) rfl (by decide) (fun _ => rfl) hf (fun x4 rx4 hf ls hl => ?_)
        refine lv_goto (tgt := 42) cx.1 cx.2.1 dX12_compare_155 (by decide) ?_
        exact ih x152_4 x4 h _ _ ls rx152_4 rx4 hp (lv_sub hl [1, 2, 3, 4, 0] rfl) hf
      exact wX12_compare_56 F cx u0 ru0 u1 ru1 u2 ru2 v5 rv5 j152 hj152 k122 hk122 F v4 0 h _ _ ls rv4 (by decide) hp (lv_sub hl [1, 2, 3, 4, 5, 0] rfl) hf
    · exact hk158  h _ _ ls  hp (lv_sub hl [] rfl) hf
def LX12_compare_10 (F : Nat) (u0 : Nat) (u1 : Int) (u2 : Nat) (u3 : Int) (k36 : HF → RO) : Nat → Int → HF → RO
  | 0, _, _ => none
  | n + 1, v4, h =>
    if v4 < u3 then (
      zrd h (u0 + 30) v4 fun x15 =>
      zwr h (u0 + 31) x15 v4 fun h =>
      zlet (wr (v4 + 1)) fun x16 =>
      LX12_compare_10 F u0 u1 u2 u3 k36 n x16 h
    ) else (
      k36  h
    )
set_option maxHeartbeats 4000000 in
set_option maxRecDepth 100000 in
theorem wX12_compare_10 {p : Program} {l : Launch} {e : Env} {s : State} {m : MethodId} {args : Array Value} {below : List Frame} {meth : Method} {c : Code} {Q : State → Prop} {g : zG} {B : Nat} {o : Int × HF} (F : Nat) (cx : Cx p s m args meth c cX12_compare 9 RX12 (some .int) g B) (u0 : Nat) (ru0 : kt u0 = 15) (u1 : Int) (ru1 : rng u1) (u2 : Nat) (ru2 : kt u2 = 0) (u3 : Int) (ru3 : rng u3) (k36 : HF → RO) (hk36 : ∀  (h : HF) (H : Heap) (locs : List Loc) (ls : Array Slot), Hp g B s h H locs → lv_has ls 9 [(0, .ref (B + u0)), (1, .int (ii u1)), (2, .ref (B + u2))] → k36  h = some o → W p l e (rmn 3) s m args below meth c H locs 0 0 Q (F0 m 36 ls [])) : ∀ (n : Nat) (v4 : Int) (h : HF) (H : Heap) (locs : List Loc) (ls : Array Slot), rng v4 → Hp g B s h H locs → lv_has ls 9 [(0, .ref (B + u0)), (1, .int (ii u1)), (2, .ref (B + u2)), (3, .int (ii u3)), (4, .int (ii v4))] → LX12_compare_10 F u0 u1 u2 u3 k36 n v4 h = some o → W p l e (rmn 3) s m args below meth c H locs 0 0 Q (F0 m 10 ls []) := by
  intro n
  induction n with
  | zero =>
    intro v4 h H locs ls rv4 hp hl hf
    cases hf
  | succ n ih =>
    intro v4 h H locs ls rv4 hp hl hf
    rw [LX12_compare_10] at hf
    refine lv_iload cx.1 cx.2.1 dX12_compare_10 (lv_at hl 4 rfl) ?_
    refine lv_iload_n cx.1 cx.2.1 dX12_compare_12 rfl (lv_at hl 3 rfl) ?_
    refine z_icmp_ge cx rv4 ru3 (tgt := 36) dX12_compare_13 (by decide) hf (fun _ hf => ?_) (fun _ hf => ?_)
    · refine lv_aload_n cx.1 cx.2.1 dX12_compare_16 rfl (lv_at hl 0 rfl) ?_
      refine z_gets cx hp (T := TX12) 12 49 (u0 + 31) rfl zin_12 (by decide) (by decide) ru0 rfl fl_X12_100 dX12_compare_17 ?_
      refine lv_aload_n cx.1 cx.2.1 dX12_compare_20 rfl (lv_at hl 0 rfl) ?_
      refine z_gets cx hp (T := TX12) 12 48 (u0 + 30) rfl zin_12 (by decide) (by decide) ru0 rfl fl_X12_97 dX12_compare_21 ?_
      refine lv_iload cx.1 cx.2.1 dX12_compare_24 (lv_at hl 4 rfl) ?_
      refine z_iald cx hp (zs_12_48 u0 (kt_lt ru0 (by decide)) ru0) rv4 dX12_compare_26 hf (fun x15 rx15 hf => ?_)
      refine lv_iload cx.1 cx.2.1 dX12_compare_27 (lv_at hl 4 rfl) ?_
      refine z_iast cx hp (zs_12_49 u0 (kt_lt ru0 (by decide)) ru0) rx15 rv4 dX12_compare_29 hf (fun h H locs hp hf => ?_)
      refine z_iinc cx (fun x16 => [(4, .int (ii x16)), (0, .ref (B + u0)), (1, .int (ii u1)), (2, .ref (B + u2)), (3, .int (ii u3))]) dX12_compare_30 hl (k := 4) rfl (by decide) (fun _ => rfl) hf (fun x16 rx16 hf ls hl => ?_)
      refine lv_goto (tgt := 10) cx.1 cx.2.1 dX12_compare_33 (by decide) ?_
      exact ih x16 h _ _ ls rx16 hp (lv_sub hl [1, 2, 3, 4, 0] rfl) hf
    · exact hk36  h _ _ ls  hp (lv_sub hl [0, 1, 2] rfl) hf
def fX12_compare (F : Nat) (a0 : Nat) (a1 : Int) (a2 : Nat) (h : HF) : RO :=
  zrd h (a0 + 3) a1 fun x1 =>
  zjn (fun  (h : HF) => (
    zjn (fun  (h : HF) => (
      some (0, h)
    )) fun j158 =>
    zjn (fun (x122_4 : Int) (x122_8 : Int) (h : HF) => (
      zrd h a2 x122_4 fun x2 =>
      zjn (fun (y136_0 : Int) (h : HF) => (
        some (y136_0, h)
      )) fun j136 =>
      if x122_8 < x2 then (
        j136 (-1) h
      ) else (
        j136 1 h
      )
    )) fun j122 =>
    LX12_compare_42 F a0 a1 a2 j158 j122 F 0 0 h
  )) fun j36 =>
  LX12_compare_10 F a0 a1 a2 x1 j36 F 0 h
set_option maxHeartbeats 4000000 in
set_option maxRecDepth 100000 in
theorem mX12_compare (F : Nat) (l : Launch) (g : zG) (B : Nat) (h : HF) (a0 : Nat) (a1 : Int) (a2 : Nat) (ra0 : kt a0 = 15) (ra1 : rng a1) (ra2 : kt a2 = 0) : CTi l g B yX12_compare cX12_compare 9 (some .int) 3 [.ref (B + a0), .int (ii a1), .ref (B + a2)] h (fX12_compare F a0 a1 a2 h) := by
  refine z_enterI (by decide) rfl (Nat.le_of_ble_eq_true rfl) ?_
  intro p e s m args below meth c ls o Q cx hp hl hf hQ
  have hl : lv_has ls 9 [(0, .ref (B + a0)), (1, .int (ii a1)), (2, .ref (B + a2))] := hl
  unfold fX12_compare at hf
  refine lv_aload_n cx.1 cx.2.1 dX12_compare_0 rfl (lv_at hl 0 rfl) ?_
  refine z_gets cx hp (T := TX12) 12 6 (a0 + 3) rfl zin_12 (by decide) (by decide) ra0 rfl fl_X12_16 dX12_compare_1 ?_
  refine lv_iload_n cx.1 cx.2.1 dX12_compare_4 rfl (lv_at hl 1 rfl) ?_
  refine z_iald cx hp (zs_12_6 a0 (kt_lt ra0 (by decide)) ra0) ra1 dX12_compare_5 hf (fun x1 rx1 hf => ?_)
  refine lv_istore_n (lv' := [(3, .int (ii x1)), (0, .ref (B + a0)), (1, .int (ii a1)), (2, .ref (B + a2))]) cx.1 cx.2.1 dX12_compare_6 rfl hl (by decide) rfl (fun ls hl => ?_)
  refine z_iconst cx dX12_compare_7 ?_
  refine lv_istore (lv' := [(4, .int (ii 0)), (3, .int (ii x1)), (0, .ref (B + a0)), (1, .int (ii a1)), (2, .ref (B + a2))]) cx.1 cx.2.1 dX12_compare_8 hl (by decide) rfl (fun ls hl => ?_)
  refine z_jn hf (fun j => ∀  (h : HF) (H : Heap) (locs : List Loc) (ls : Array Slot), Hp g B s h H locs → lv_has ls 9 [(0, .ref (B + a0)), (1, .int (ii a1)), (2, .ref (B + a2))] → j  h = some o → W p l e (rmn 3) s m args below meth c H locs 0 0 Q (F0 m 36 ls [])) ?_ (fun j36 hj36 hf => ?_)
  · intro  h H locs ls  hp hl hf
    refine z_iconst cx dX12_compare_36 ?_
    refine lv_istore (lv' := [(4, .int (ii 0)), (0, .ref (B + a0)), (1, .int (ii a1)), (2, .ref (B + a2))]) cx.1 cx.2.1 dX12_compare_37 hl (by decide) rfl (fun ls hl => ?_)
    refine z_iconst cx dX12_compare_39 ?_
    refine lv_istore (lv' := [(5, .int (ii 0)), (4, .int (ii 0)), (0, .ref (B + a0)), (1, .int (ii a1)), (2, .ref (B + a2))]) cx.1 cx.2.1 dX12_compare_40 hl (by decide) rfl (fun ls hl => ?_)
    refine z_jn hf (fun j => ∀  (h : HF) (H : Heap) (locs : List Loc) (ls : Array Slot), Hp g B s h H locs → lv_has ls 9 [] → j  h = some o → W p l e (rmn 3) s m args below meth c H locs 0 0 Q (F0 m 158 ls [])) ?_ (fun j158 hj158 hf => ?_)
    · intro  h H locs ls  hp hl hf
      refine z_iconst cx dX12_compare_158 ?_
      rw [hQ]; exact z_iret cx hp (by decide) dX12_compare_159 hf
    refine z_jn hf (fun j => ∀ (x122_4 : Int) (x122_8 : Int) (h : HF) (H : Heap) (locs : List Loc) (ls : Array Slot), rng x122_4 → rng x122_8 → Hp g B s h H locs → lv_has ls 9 [(2, .ref (B + a2)), (4, .int (ii x122_4)), (8, .int (ii x122_8))] → j x122_4 x122_8 h = some o → W p l e (rmn 3) s m args below meth c H locs 0 0 Q (F0 m 122 ls [])) ?_ (fun j122 hj122 hf => ?_)
    · intro x122_4 x122_8 h H locs ls rx122_4 rx122_8 hp hl hf
      refine lv_iload cx.1 cx.2.1 dX12_compare_122 (lv_at hl 2 rfl) ?_
      refine lv_aload_n cx.1 cx.2.1 dX12_compare_124 rfl (lv_at hl 0 rfl) ?_
      refine lv_iload cx.1 cx.2.1 dX12_compare_125 (lv_at hl 1 rfl) ?_
      refine z_iald cx hp ra2 rx122_4 dX12_compare_127 hf (fun x2 rx2 hf => ?_)
      refine z_jn hf (fun j => ∀ (y136_0 : Int) (h : HF) (H : Heap) (locs : List Loc) (ls : Array Slot), rng y136_0 → Hp g B s h H locs → lv_has ls 9 [] → j y136_0 h = some o → W p l e (rmn 3) s m args below meth c H locs 0 0 Q (F0 m 136 ls [.int (ii y136_0)])) ?_ (fun j136 hj136 hf => ?_)
      · intro y136_0 h H locs ls ry136_0 hp hl hf
        rw [hQ]; exact z_iret cx hp ry136_0 dX12_compare_136 hf
      refine z_icmp_ge cx rx122_8 rx2 (tgt := 135) dX12_compare_128 (by decide) hf (fun _ hf => ?_) (fun _ hf => ?_)
      · refine z_iconst cx dX12_compare_131 ?_
        refine lv_goto (tgt := 136) cx.1 cx.2.1 dX12_compare_132 (by decide) ?_
        exact hj136 (-1) h _ _ ls (by decide) hp (lv_sub hl [] rfl) hf
      · refine z_iconst cx dX12_compare_135 ?_
        exact hj136 1 h _ _ ls (by decide) hp (lv_sub hl [] rfl) hf
    exact wX12_compare_42 F cx a0 ra0 a1 ra1 a2 ra2 j158 hj158 j122 hj122 F 0 0 h _ _ ls (by decide) (by decide) hp (lv_sub hl [2, 3, 4, 1, 0] rfl) hf
  exact wX12_compare_10 F cx a0 ra0 a1 ra1 a2 ra2 x1 rx1 j36 hj36 F 0 h _ _ ls (by decide) hp (lv_sub hl [2, 3, 4, 1, 0] rfl) hf
theorem dX12_lay_0 : decode cX12_lay 0 = .ok (.iconst 0, 1) := by decide +kernel
theorem dX12_lay_1 : decode cX12_lay 1 = .ok (.istore_n 3, 1) := by decide +kernel
theorem dX12_lay_2 : decode cX12_lay 2 = .ok (.iconst 0, 1) := by decide +kernel
theorem dX12_lay_3 : decode cX12_lay 3 = .ok (.istore 4, 2) := by decide +kernel
theorem dX12_lay_5 : decode cX12_lay 5 = .ok (.iload 4, 2) := by decide +kernel
theorem dX12_lay_7 : decode cX12_lay 7 = .ok (.aload_n 0, 1) := by decide +kernel
theorem dX12_lay_8 : decode cX12_lay 8 = .ok (.getfield 16, 3) := by decide +kernel
theorem dX12_lay_11 : decode cX12_lay 11 = .ok (.iload_n 1, 1) := by decide +kernel
theorem dX12_lay_12 : decode cX12_lay 12 = .ok (.iaload, 1) := by decide +kernel
theorem dX12_lay_13 : decode cX12_lay 13 = .ok (.if_icmp .ge 23, 3) := by decide +kernel
theorem dX12_lay_16 : decode cX12_lay 16 = .ok (.aload_n 0, 1) := by decide +kernel
theorem dX12_lay_17 : decode cX12_lay 17 = .ok (.getfield 100, 3) := by decide +kernel
theorem dX12_lay_20 : decode cX12_lay 20 = .ok (.aload_n 0, 1) := by decide +kernel
theorem dX12_lay_21 : decode cX12_lay 21 = .ok (.getfield 97, 3) := by decide +kernel
theorem dX12_lay_24 : decode cX12_lay 24 = .ok (.iload 4, 2) := by decide +kernel
theorem dX12_lay_26 : decode cX12_lay 26 = .ok (.iaload, 1) := by decide +kernel
theorem dX12_lay_27 : decode cX12_lay 27 = .ok (.iload 4, 2) := by decide +kernel
theorem dX12_lay_29 : decode cX12_lay 29 = .ok (.iastore, 1) := by decide +kernel
theorem dX12_lay_30 : decode cX12_lay 30 = .ok (.iinc 4 1, 3) := by decide +kernel
theorem dX12_lay_33 : decode cX12_lay 33 = .ok (.goto (-28), 3) := by decide +kernel
theorem dX12_lay_36 : decode cX12_lay 36 = .ok (.iconst 0, 1) := by decide +kernel
theorem dX12_lay_37 : decode cX12_lay 37 = .ok (.istore 4, 2) := by decide +kernel
theorem dX12_lay_39 : decode cX12_lay 39 = .ok (.iload 4, 2) := by decide +kernel
theorem dX12_lay_41 : decode cX12_lay 41 = .ok (.aload_n 0, 1) := by decide +kernel
theorem dX12_lay_42 : decode cX12_lay 42 = .ok (.getfield 19, 3) := by decide +kernel
theorem dX12_lay_45 : decode cX12_lay 45 = .ok (.iload_n 1, 1) := by decide +kernel
theorem dX12_lay_46 : decode cX12_lay 46 = .ok (.iaload, 1) := by decide +kernel
theorem dX12_lay_47 : decode cX12_lay 47 = .ok (.if_icmp .ge 85, 3) := by decide +kernel
theorem dX12_lay_50 : decode cX12_lay 50 = .ok (.iconst 0, 1) := by decide +kernel
theorem dX12_lay_51 : decode cX12_lay 51 = .ok (.istore 5, 2) := by decide +kernel
theorem dX12_lay_53 : decode cX12_lay 53 = .ok (.iload 5, 2) := by decide +kernel
theorem dX12_lay_55 : decode cX12_lay 55 = .ok (.aload_n 0, 1) := by decide +kernel
theorem dX12_lay_56 : decode cX12_lay 56 = .ok (.iload_n 1, 1) := by decide +kernel
theorem dX12_lay_57 : decode cX12_lay 57 = .ok (.iload 4, 2) := by decide +kernel
theorem dX12_lay_59 : decode cX12_lay 59 = .ok (.iconst 0, 1) := by decide +kernel
theorem dX12_lay_60 : decode cX12_lay 60 = .ok (.invokevirtual 304, 3) := by decide +kernel
theorem dX12_lay_63 : decode cX12_lay 63 = .ok (.if_icmp .ge 63, 3) := by decide +kernel
theorem dX12_lay_66 : decode cX12_lay 66 = .ok (.iconst 0, 1) := by decide +kernel
theorem dX12_lay_67 : decode cX12_lay 67 = .ok (.istore 6, 2) := by decide +kernel
theorem dX12_lay_69 : decode cX12_lay 69 = .ok (.iload 6, 2) := by decide +kernel
theorem dX12_lay_71 : decode cX12_lay 71 = .ok (.aload_n 0, 1) := by decide +kernel
theorem dX12_lay_72 : decode cX12_lay 72 = .ok (.iload_n 1, 1) := by decide +kernel
theorem dX12_lay_73 : decode cX12_lay 73 = .ok (.iload 4, 2) := by decide +kernel
theorem dX12_lay_75 : decode cX12_lay 75 = .ok (.iconst 1, 1) := by decide +kernel
theorem dX12_lay_76 : decode cX12_lay 76 = .ok (.invokevirtual 304, 3) := by decide +kernel
theorem dX12_lay_79 : decode cX12_lay 79 = .ok (.if_icmp .ge 41, 3) := by decide +kernel
theorem dX12_lay_82 : decode cX12_lay 82 = .ok (.aload_n 2, 1) := by decide +kernel
theorem dX12_lay_83 : decode cX12_lay 83 = .ok (.iload_n 3, 1) := by decide +kernel
theorem dX12_lay_84 : decode cX12_lay 84 = .ok (.aload_n 0, 1) := by decide +kernel
theorem dX12_lay_85 : decode cX12_lay 85 = .ok (.getfield 97, 3) := by decide +kernel
theorem dX12_lay_88 : decode cX12_lay 88 = .ok (.aload_n 0, 1) := by decide +kernel
theorem dX12_lay_89 : decode cX12_lay 89 = .ok (.iload_n 1, 1) := by decide +kernel
theorem dX12_lay_90 : decode cX12_lay 90 = .ok (.iload 4, 2) := by decide +kernel
theorem dX12_lay_92 : decode cX12_lay 92 = .ok (.aload_n 0, 1) := by decide +kernel
theorem dX12_lay_93 : decode cX12_lay 93 = .ok (.getfield 100, 3) := by decide +kernel
theorem dX12_lay_96 : decode cX12_lay 96 = .ok (.iload 5, 2) := by decide +kernel
theorem dX12_lay_98 : decode cX12_lay 98 = .ok (.iaload, 1) := by decide +kernel
theorem dX12_lay_99 : decode cX12_lay 99 = .ok (.aload_n 0, 1) := by decide +kernel
theorem dX12_lay_100 : decode cX12_lay 100 = .ok (.getfield 100, 3) := by decide +kernel
theorem dX12_lay_103 : decode cX12_lay 103 = .ok (.iload 6, 2) := by decide +kernel
theorem dX12_lay_105 : decode cX12_lay 105 = .ok (.iaload, 1) := by decide +kernel
theorem dX12_lay_106 : decode cX12_lay 106 = .ok (.invokevirtual 178, 3) := by decide +kernel
theorem dX12_lay_109 : decode cX12_lay 109 = .ok (.iaload, 1) := by decide +kernel
theorem dX12_lay_110 : decode cX12_lay 110 = .ok (.iastore, 1) := by decide +kernel
theorem dX12_lay_111 : decode cX12_lay 111 = .ok (.iinc 3 1, 3) := by decide +kernel
theorem dX12_lay_114 : decode cX12_lay 114 = .ok (.iinc 6 1, 3) := by decide +kernel
theorem dX12_lay_117 : decode cX12_lay 117 = .ok (.goto (-48), 3) := by decide +kernel
theorem dX12_lay_120 : decode cX12_lay 120 = .ok (.iinc 5 1, 3) := by decide +kernel
theorem dX12_lay_123 : decode cX12_lay 123 = .ok (.goto (-70), 3) := by decide +kernel
theorem dX12_lay_126 : decode cX12_lay 126 = .ok (.iinc 4 1, 3) := by decide +kernel
theorem dX12_lay_129 : decode cX12_lay 129 = .ok (.goto (-90), 3) := by decide +kernel
theorem dX12_lay_132 : decode cX12_lay 132 = .ok (.return_, 1) := by decide +kernel
def LX12_lay_69 (F : Nat) (u0 : Nat) (u1 : Int) (u2 : Nat) (u4 : Int) (u5 : Int) (k120 : Int → Int → HF → RO) : Nat → Int → Int → HF → RO
  | 0, _, _, _ => none
  | n + 1, v3, v6, h =>
    zbd (fX12_upTo F u0 u1 u4 1 h) fun r5 h =>
    if v6 < r5 then (
      zrd h (u0 + 31) u5 fun x6 =>
      zrd h (u0 + 31) v6 fun x7 =>
      zbd (fX12_value F u0 u1 u4 x6 x7 h) fun r8 h =>
      zrd h (u0 + 30) r8 fun x9 =>
      zwr h u2 v3 x9 fun h =>
      zlet (wr (v3 + 1)) fun x10 =>
      zlet (wr (v6 + 1)) fun x11 =>
      LX12_lay_69 F u0 u1 u2 u4 u5 k120 n x10 x11 h
    ) else (
      k120 v3 u5 h
    )
set_option maxHeartbeats 4000000 in
set_option maxRecDepth 100000 in
theorem wX12_lay_69 {p : Program} {l : Launch} {e : Env} {s : State} {m : MethodId} {args : Array Value} {below : List Frame} {meth : Method} {c : Code} {Q : State → Prop} {g : zG} {B : Nat} {o : Int × HF} (F : Nat) (cx : Cx p s m args meth c cX12_lay 7 RX12 none g B) (u0 : Nat) (ru0 : kt u0 = 15) (u1 : Int) (ru1 : rng u1) (u2 : Nat) (ru2 : kt u2 = 0) (u4 : Int) (ru4 : rng u4) (u5 : Int) (ru5 : rng u5) (k120 : Int → Int → HF → RO) (hk120 : ∀ (x3 : Int) (x5 : Int) (h : HF) (H : Heap) (locs : List Loc) (ls : Array Slot), rng x3 → rng x5 → Hp g B s h H locs → lv_has ls 7 [(0, .ref (B + u0)), (1, .int (ii u1)), (2, .ref (B + u2)), (3, .int (ii x3)), (4, .int (ii u4)), (5, .int (ii x5))] → k120 x3 x5 h = some o → W p l e (rmn 3) s m args below meth c H locs 0 0 Q (F0 m 120 ls [])) : ∀ (n : Nat) (v3 : Int) (v6 : Int) (h : HF) (H : Heap) (locs : List Loc) (ls : Array Slot), rng v3 → rng v6 → Hp g B s h H locs → lv_has ls 7 [(0, .ref (B + u0)), (1, .int (ii u1)), (2, .ref (B + u2)), (3, .int (ii v3)), (4, .int (ii u4)), (5, .int (ii u5)), (6, .int (ii v6))] → LX12_lay_69 F u0 u1 u2 u4 u5 k120 n v3 v6 h = some o → W p l e (rmn 3) s m args below meth c H locs 0 0 Q (F0 m 69 ls []) := by
  intro n
  induction n with
  | zero =>
    intro v3 v6 h H locs ls rv3 rv6 hp hl hf
    cases hf
  | succ n ih =>
    intro v3 v6 h H locs ls rv3 rv6 hp hl hf
    rw [LX12_lay_69] at hf
    refine lv_iload cx.1 cx.2.1 dX12_lay_69 (lv_at hl 6 rfl) ?_
    refine lv_aload_n cx.1 cx.2.1 dX12_lay_71 rfl (lv_at hl 0 rfl) ?_
    refine lv_iload_n cx.1 cx.2.1 dX12_lay_72 rfl (lv_at hl 1 rfl) ?_
    refine lv_iload cx.1 cx.2.1 dX12_lay_73 (lv_at hl 4 rfl) ?_
    refine z_iconst cx dX12_lay_75 ?_
    refine z_ci cx hp (fun o' hx => zrunV (n := 3) (As := [.int (ii u1), .int (ii u4), .int (ii 1)]) (rest := [.int (ii v6)]) cx hp (mX12_upTo F l g B h u0 u1 u4 1 ru0 ru1 ru4 (by decide) o' hx) 12 ru0 (by decide) rfl vw_X12_upTo ml_X12_304 (by decide) rfl hl.1 rfl (Nat.le_of_ble_eq_true rfl) dX12_lay_76) hf (fun r5 h H locs rr5 hp hf => ?_)
    refine z_icmp_ge cx rv6 rr5 (tgt := 120) dX12_lay_79 (by decide) hf (fun _ hf => ?_) (fun _ hf => ?_)
    · refine lv_aload_n cx.1 cx.2.1 dX12_lay_82 rfl (lv_at hl 2 rfl) ?_
      refine lv_iload_n cx.1 cx.2.1 dX12_lay_83 rfl (lv_at hl 3 rfl) ?_
      refine lv_aload_n cx.1 cx.2.1 dX12_lay_84 rfl (lv_at hl 0 rfl) ?_
      refine z_gets cx hp (T := TX12) 12 48 (u0 + 30) rfl zin_12 (by decide) (by decide) ru0 rfl fl_X12_97 dX12_lay_85 ?_
      refine lv_aload_n cx.1 cx.2.1 dX12_lay_88 rfl (lv_at hl 0 rfl) ?_
      refine lv_iload_n cx.1 cx.2.1 dX12_lay_89 rfl (lv_at hl 1 rfl) ?_
      refine lv_iload cx.1 cx.2.1 dX12_lay_90 (lv_at hl 4 rfl) ?_
      refine lv_aload_n cx.1 cx.2.1 dX12_lay_92 rfl (lv_at hl 0 rfl) ?_
      refine z_gets cx hp (T := TX12) 12 49 (u0 + 31) rfl zin_12 (by decide) (by decide) ru0 rfl fl_X12_100 dX12_lay_93 ?_
      refine lv_iload cx.1 cx.2.1 dX12_lay_96 (lv_at hl 5 rfl) ?_
      refine z_iald cx hp (zs_12_49 u0 (kt_lt ru0 (by decide)) ru0) ru5 dX12_lay_98 hf (fun x6 rx6 hf => ?_)
      refine lv_aload_n cx.1 cx.2.1 dX12_lay_99 rfl (lv_at hl 0 rfl) ?_
      refine z_gets cx hp (T := TX12) 12 49 (u0 + 31) rfl zin_12 (by decide) (by decide) ru0 rfl fl_X12_100 dX12_lay_100 ?_
      refine lv_iload cx.1 cx.2.1 dX12_lay_103 (lv_at hl 6 rfl) ?_
      refine z_iald cx hp (zs_12_49 u0 (kt_lt ru0 (by decide)) ru0) rv6 dX12_lay_105 hf (fun x7 rx7 hf => ?_)
      refine z_ci cx hp (fun o' hx => zrunV (n := 3) (As := [.int (ii u1), .int (ii u4), .int (ii x6), .int (ii x7)]) (rest := [.ref (B + (u0 + 30)), .int (ii v3), .ref (B + u2)]) cx hp (mX12_value F l g B h u0 u1 u4 x6 x7 ru0 ru1 ru4 rx6 rx7 o' hx) 12 ru0 (by decide) rfl vw_X12_value ml_X12_178 (by decide) rfl hl.1 rfl (Nat.le_of_ble_eq_true rfl) dX12_lay_106) hf (fun r8 h H locs rr8 hp hf => ?_)
      refine z_iald cx hp (zs_12_48 u0 (kt_lt ru0 (by decide)) ru0) rr8 dX12_lay_109 hf (fun x9 rx9 hf => ?_)
      refine z_iast cx hp ru2 rv3 rx9 dX12_lay_110 hf (fun h H locs hp hf => ?_)
      refine z_iinc cx (fun x10 => [(3, .int (ii x10)), (0, .ref (B + u0)), (1, .int (ii u1)), (2, .ref (B + u2)), (4, .int (ii u4)), (5, .int (ii u5)), (6, .int (ii v6))]) dX12_lay_111 hl (k := 3) rfl (by decide) (fun _ => rfl) hf (fun x10 rx10 hf ls hl => ?_)
      refine z_iinc cx (fun x11 => [(6, .int (ii x11)), (3, .int (ii x10)), (0, .ref (B + u0)), (1, .int (ii u1)), (2, .ref (B + u2)), (4, .int (ii u4)), (5, .int (ii u5))]) dX12_lay_114 hl (k := 6) rfl (by decide) (fun _ => rfl) hf (fun x11 rx11 hf ls hl => ?_)
      refine lv_goto (tgt := 69) cx.1 cx.2.1 dX12_lay_117 (by decide) ?_
      exact ih x10 x11 h _ _ ls rx10 rx11 hp (lv_sub hl [2, 3, 4, 1, 5, 6, 0] rfl) hf
    · exact hk120 v3 u5 h _ _ ls rv3 ru5 hp (lv_sub hl [0, 1, 2, 3, 4, 5] rfl) hf
def LX12_lay_53 (F : Nat) (u0 : Nat) (u1 : Int) (u2 : Nat) (u4 : Int) (k126 : Int → Int → HF → RO) : Nat → Int → Int → HF → RO
  | 0, _, _, _ => none
  | n + 1, v3, v5, h =>
    zbd (fX12_upTo F u0 u1 u4 0 h) fun r3 h =>
    if v5 < r3 then (
      zjn (fun (x120_3 : Int) (x120_5 : Int) (h : HF) => (
        zlet (wr (x120_5 + 1)) fun x4 =>
        LX12_lay_53 F u0 u1 u2 u4 k126 n x120_3 x4 h
      )) fun j120 =>
      LX12_lay_69 F u0 u1 u2 u4 v5 j120 F v3 0 h
    ) else (
      k126 v3 u4 h
    )
set_option maxHeartbeats 4000000 in
set_option maxRecDepth 100000 in
theorem wX12_lay_53 {p : Program} {l : Launch} {e : Env} {s : State} {m : MethodId} {args : Array Value} {below : List Frame} {meth : Method} {c : Code} {Q : State → Prop} {g : zG} {B : Nat} {o : Int × HF} (F : Nat) (cx : Cx p s m args meth c cX12_lay 7 RX12 none g B) (u0 : Nat) (ru0 : kt u0 = 15) (u1 : Int) (ru1 : rng u1) (u2 : Nat) (ru2 : kt u2 = 0) (u4 : Int) (ru4 : rng u4) (k126 : Int → Int → HF → RO) (hk126 : ∀ (x3 : Int) (x4 : Int) (h : HF) (H : Heap) (locs : List Loc) (ls : Array Slot), rng x3 → rng x4 → Hp g B s h H locs → lv_has ls 7 [(0, .ref (B + u0)), (1, .int (ii u1)), (2, .ref (B + u2)), (3, .int (ii x3)), (4, .int (ii x4))] → k126 x3 x4 h = some o → W p l e (rmn 3) s m args below meth c H locs 0 0 Q (F0 m 126 ls [])) : ∀ (n : Nat) (v3 : Int) (v5 : Int) (h : HF) (H : Heap) (locs : List Loc) (ls : Array Slot), rng v3 → rng v5 → Hp g B s h H locs → lv_has ls 7 [(0, .ref (B + u0)), (1, .int (ii u1)), (2, .ref (B + u2)), (3, .int (ii v3)), (4, .int (ii u4)), (5, .int (ii v5))] → LX12_lay_53 F u0 u1 u2 u4 k126 n v3 v5 h = some o → W p l e (rmn 3) s m args below meth c H locs 0 0 Q (F0 m 53 ls []) := by
  intro n
  induction n with
  | zero =>
    intro v3 v5 h H locs ls rv3 rv5 hp hl hf
    cases hf
  | succ n ih =>
    intro v3 v5 h H locs ls rv3 rv5 hp hl hf
    rw [LX12_lay_53] at hf
    refine lv_iload cx.1 cx.2.1 dX12_lay_53 (lv_at hl 5 rfl) ?_
    refine lv_aload_n cx.1 cx.2.1 dX12_lay_55 rfl (lv_at hl 0 rfl) ?_
    refine lv_iload_n cx.1 cx.2.1 dX12_lay_56 rfl (lv_at hl 1 rfl) ?_
    refine lv_iload cx.1 cx.2.1 dX12_lay_57 (lv_at hl 4 rfl) ?_
    refine z_iconst cx dX12_lay_59 ?_
    refine z_ci cx hp (fun o' hx => zrunV (n := 3) (As := [.int (ii u1), .int (ii u4), .int (ii 0)]) (rest := [.int (ii v5)]) cx hp (mX12_upTo F l g B h u0 u1 u4 0 ru0 ru1 ru4 (by decide) o' hx) 12 ru0 (by decide) rfl vw_X12_upTo ml_X12_304 (by decide) rfl hl.1 rfl (Nat.le_of_ble_eq_true rfl) dX12_lay_60) hf (fun r3 h H locs rr3 hp hf => ?_)
    refine z_icmp_ge cx rv5 rr3 (tgt := 126) dX12_lay_63 (by decide) hf (fun _ hf => ?_) (fun _ hf => ?_)
    · refine z_iconst cx dX12_lay_66 ?_
      refine lv_istore (lv' := [(6, .int (ii 0)), (0, .ref (B + u0)), (1, .int (ii u1)), (2, .ref (B + u2)), (3, .int (ii v3)), (4, .int (ii u4)), (5, .int (ii v5))]) cx.1 cx.2.1 dX12_lay_67 hl (by decide) rfl (fun ls hl => ?_)
      refine z_jn hf (fun j => ∀ (x120_3 : Int) (x120_5 : Int) (h : HF) (H : Heap) (locs : List Loc) (ls : Array Slot), rng x120_3 → rng x120_5 → Hp g B s h H locs → lv_has ls 7 [(0, .ref (B + u0)), (1, .int (ii u1)), (2, .ref (B + u2)), (3, .int (ii x120_3)), (4, .int (ii u4)), (5, .int (ii x120_5))] → j x120_3 x120_5 h = some o → W p l e (rmn 3) s m args below meth c H locs 0 0 Q (F0 m 120 ls [])) ?_ (fun j120 hj120 hf => ?_)
      · intro x120_3 x120_5 h H locs ls rx120_3 rx120_5 hp hl hf
        refine z_iinc cx (fun x4 => [(5, .int (ii x4)), (0, .ref (B + u0)), (1, .int (ii u1)), (2, .ref (B + u2)), (3, .int (ii x120_3)), (4, .int (ii u4))]) dX12_lay_120 hl (k := 5) rfl (by decide) (fun _ => rfl) hf (fun x4 rx4 hf ls hl => ?_)
        refine lv_goto (tgt := 53) cx.1 cx.2.1 dX12_lay_123 (by decide) ?_
        exact ih x120_3 x4 h _ _ ls rx120_3 rx4 hp (lv_sub hl [1, 2, 3, 4, 5, 0] rfl) hf
      exact wX12_lay_69 F cx u0 ru0 u1 ru1 u2 ru2 u4 ru4 v5 rv5 j120 hj120 F v3 0 h _ _ ls rv3 (by decide) hp (lv_sub hl [1, 2, 3, 4, 5, 6, 0] rfl) hf
    · exact hk126 v3 u4 h _ _ ls rv3 ru4 hp (lv_sub hl [0, 1, 2, 3, 4] rfl) hf
def LX12_lay_39 (F : Nat) (u0 : Nat) (u1 : Int) (u2 : Nat) (k132 : HF → RO) : Nat → Int → Int → HF → RO
  | 0, _, _, _ => none
  | n + 1, v3, v4, h =>
    zrd h (u0 + 4) u1 fun x1 =>
    if v4 < x1 then (
      zjn (fun (x126_3 : Int) (x126_4 : Int) (h : HF) => (
        zlet (wr (x126_4 + 1)) fun x2 =>
        LX12_lay_39 F u0 u1 u2 k132 n x126_3 x2 h
      )) fun j126 =>
      LX12_lay_53 F u0 u1 u2 v4 j126 F v3 0 h
    ) else (
      k132  h
    )
set_option maxHeartbeats 4000000 in
set_option maxRecDepth 100000 in
theorem wX12_lay_39 {p : Program} {l : Launch} {e : Env} {s : State} {m : MethodId} {args : Array Value} {below : List Frame} {meth : Method} {c : Code} {Q : State → Prop} {g : zG} {B : Nat} {o : Int × HF} (F : Nat) (cx : Cx p s m args meth c cX12_lay 7 RX12 none g B) (u0 : Nat) (ru0 : kt u0 = 15) (u1 : Int) (ru1 : rng u1) (u2 : Nat) (ru2 : kt u2 = 0) (k132 : HF → RO) (hk132 : ∀  (h : HF) (H : Heap) (locs : List Loc) (ls : Array Slot), Hp g B s h H locs → lv_has ls 7 [] → k132  h = some o → W p l e (rmn 3) s m args below meth c H locs 0 0 Q (F0 m 132 ls [])) : ∀ (n : Nat) (v3 : Int) (v4 : Int) (h : HF) (H : Heap) (locs : List Loc) (ls : Array Slot), rng v3 → rng v4 → Hp g B s h H locs → lv_has ls 7 [(0, .ref (B + u0)), (1, .int (ii u1)), (2, .ref (B + u2)), (3, .int (ii v3)), (4, .int (ii v4))] → LX12_lay_39 F u0 u1 u2 k132 n v3 v4 h = some o → W p l e (rmn 3) s m args below meth c H locs 0 0 Q (F0 m 39 ls []) := by
  intro n
  induction n with
  | zero =>
    intro v3 v4 h H locs ls rv3 rv4 hp hl hf
    cases hf
  | succ n ih =>
    intro v3 v4 h H locs ls rv3 rv4 hp hl hf
    rw [LX12_lay_39] at hf
    refine lv_iload cx.1 cx.2.1 dX12_lay_39 (lv_at hl 4 rfl) ?_
    refine lv_aload_n cx.1 cx.2.1 dX12_lay_41 rfl (lv_at hl 0 rfl) ?_
    refine z_gets cx hp (T := TX12) 12 7 (u0 + 4) rfl zin_12 (by decide) (by decide) ru0 rfl fl_X12_19 dX12_lay_42 ?_
    refine lv_iload_n cx.1 cx.2.1 dX12_lay_45 rfl (lv_at hl 1 rfl) ?_
    refine z_iald cx hp (zs_12_7 u0 (kt_lt ru0 (by decide)) ru0) ru1 dX12_lay_46 hf (fun x1 rx1 hf => ?_)
    refine z_icmp_ge cx rv4 rx1 (tgt := 132) dX12_lay_47 (by decide) hf (fun _ hf => ?_) (fun _ hf => ?_)
    · refine z_iconst cx dX12_lay_50 ?_
      refine lv_istore (lv' := [(5, .int (ii 0)), (0, .ref (B + u0)), (1, .int (ii u1)), (2, .ref (B + u2)), (3, .int (ii v3)), (4, .int (ii v4))]) cx.1 cx.2.1 dX12_lay_51 hl (by decide) rfl (fun ls hl => ?_)
      refine z_jn hf (fun j => ∀ (x126_3 : Int) (x126_4 : Int) (h : HF) (H : Heap) (locs : List Loc) (ls : Array Slot), rng x126_3 → rng x126_4 → Hp g B s h H locs → lv_has ls 7 [(0, .ref (B + u0)), (1, .int (ii u1)), (2, .ref (B + u2)), (3, .int (ii x126_3)), (4, .int (ii x126_4))] → j x126_3 x126_4 h = some o → W p l e (rmn 3) s m args below meth c H locs 0 0 Q (F0 m 126 ls [])) ?_ (fun j126 hj126 hf => ?_)
      · intro x126_3 x126_4 h H locs ls rx126_3 rx126_4 hp hl hf
        refine z_iinc cx (fun x2 => [(4, .int (ii x2)), (0, .ref (B + u0)), (1, .int (ii u1)), (2, .ref (B + u2)), (3, .int (ii x126_3))]) dX12_lay_126 hl (k := 4) rfl (by decide) (fun _ => rfl) hf (fun x2 rx2 hf ls hl => ?_)
        refine lv_goto (tgt := 39) cx.1 cx.2.1 dX12_lay_129 (by decide) ?_
        exact ih x126_3 x2 h _ _ ls rx126_3 rx2 hp (lv_sub hl [1, 2, 3, 4, 0] rfl) hf
      exact wX12_lay_53 F cx u0 ru0 u1 ru1 u2 ru2 v4 rv4 j126 hj126 F v3 0 h _ _ ls rv3 (by decide) hp (lv_sub hl [1, 2, 3, 4, 5, 0] rfl) hf
    · exact hk132  h _ _ ls  hp (lv_sub hl [] rfl) hf
def LX12_lay_5 (F : Nat) (u0 : Nat) (u1 : Int) (u2 : Nat) (u3 : Int) (k36 : Int → HF → RO) : Nat → Int → HF → RO
  | 0, _, _ => none
  | n + 1, v4, h =>
    zrd h (u0 + 3) u1 fun x12 =>
    if v4 < x12 then (
      zrd h (u0 + 30) v4 fun x13 =>
      zwr h (u0 + 31) x13 v4 fun h =>
      zlet (wr (v4 + 1)) fun x14 =>
      LX12_lay_5 F u0 u1 u2 u3 k36 n x14 h
    ) else (
      k36 u3 h
    )
set_option maxHeartbeats 4000000 in
set_option maxRecDepth 100000 in
theorem wX12_lay_5 {p : Program} {l : Launch} {e : Env} {s : State} {m : MethodId} {args : Array Value} {below : List Frame} {meth : Method} {c : Code} {Q : State → Prop} {g : zG} {B : Nat} {o : Int × HF} (F : Nat) (cx : Cx p s m args meth c cX12_lay 7 RX12 none g B) (u0 : Nat) (ru0 : kt u0 = 15) (u1 : Int) (ru1 : rng u1) (u2 : Nat) (ru2 : kt u2 = 0) (u3 : Int) (ru3 : rng u3) (k36 : Int → HF → RO) (hk36 : ∀ (x3 : Int) (h : HF) (H : Heap) (locs : List Loc) (ls : Array Slot), rng x3 → Hp g B s h H locs → lv_has ls 7 [(0, .ref (B + u0)), (1, .int (ii u1)), (2, .ref (B + u2)), (3, .int (ii x3))] → k36 x3 h = some o → W p l e (rmn 3) s m args below meth c H locs 0 0 Q (F0 m 36 ls [])) : ∀ (n : Nat) (v4 : Int) (h : HF) (H : Heap) (locs : List Loc) (ls : Array Slot), rng v4 → Hp g B s h H locs → lv_has ls 7 [(0, .ref (B + u0)), (1, .int (ii u1)), (2, .ref (B + u2)), (3, .int (ii u3)), (4, .int (ii v4))] → LX12_lay_5 F u0 u1 u2 u3 k36 n v4 h = some o → W p l e (rmn 3) s m args below meth c H locs 0 0 Q (F0 m 5 ls []) := by
  intro n
  induction n with
  | zero =>
    intro v4 h H locs ls rv4 hp hl hf
    cases hf
  | succ n ih =>
    intro v4 h H locs ls rv4 hp hl hf
    rw [LX12_lay_5] at hf
    refine lv_iload cx.1 cx.2.1 dX12_lay_5 (lv_at hl 4 rfl) ?_
    refine lv_aload_n cx.1 cx.2.1 dX12_lay_7 rfl (lv_at hl 0 rfl) ?_
    refine z_gets cx hp (T := TX12) 12 6 (u0 + 3) rfl zin_12 (by decide) (by decide) ru0 rfl fl_X12_16 dX12_lay_8 ?_
    refine lv_iload_n cx.1 cx.2.1 dX12_lay_11 rfl (lv_at hl 1 rfl) ?_
    refine z_iald cx hp (zs_12_6 u0 (kt_lt ru0 (by decide)) ru0) ru1 dX12_lay_12 hf (fun x12 rx12 hf => ?_)
    refine z_icmp_ge cx rv4 rx12 (tgt := 36) dX12_lay_13 (by decide) hf (fun _ hf => ?_) (fun _ hf => ?_)
    · refine lv_aload_n cx.1 cx.2.1 dX12_lay_16 rfl (lv_at hl 0 rfl) ?_
      refine z_gets cx hp (T := TX12) 12 49 (u0 + 31) rfl zin_12 (by decide) (by decide) ru0 rfl fl_X12_100 dX12_lay_17 ?_
      refine lv_aload_n cx.1 cx.2.1 dX12_lay_20 rfl (lv_at hl 0 rfl) ?_
      refine z_gets cx hp (T := TX12) 12 48 (u0 + 30) rfl zin_12 (by decide) (by decide) ru0 rfl fl_X12_97 dX12_lay_21 ?_
      refine lv_iload cx.1 cx.2.1 dX12_lay_24 (lv_at hl 4 rfl) ?_
      refine z_iald cx hp (zs_12_48 u0 (kt_lt ru0 (by decide)) ru0) rv4 dX12_lay_26 hf (fun x13 rx13 hf => ?_)
      refine lv_iload cx.1 cx.2.1 dX12_lay_27 (lv_at hl 4 rfl) ?_
      refine z_iast cx hp (zs_12_49 u0 (kt_lt ru0 (by decide)) ru0) rx13 rv4 dX12_lay_29 hf (fun h H locs hp hf => ?_)
      refine z_iinc cx (fun x14 => [(4, .int (ii x14)), (0, .ref (B + u0)), (1, .int (ii u1)), (2, .ref (B + u2)), (3, .int (ii u3))]) dX12_lay_30 hl (k := 4) rfl (by decide) (fun _ => rfl) hf (fun x14 rx14 hf ls hl => ?_)
      refine lv_goto (tgt := 5) cx.1 cx.2.1 dX12_lay_33 (by decide) ?_
      exact ih x14 h _ _ ls rx14 hp (lv_sub hl [1, 2, 3, 4, 0] rfl) hf
    · exact hk36 u3 h _ _ ls ru3 hp (lv_sub hl [0, 1, 2, 3] rfl) hf
def fX12_lay (F : Nat) (a0 : Nat) (a1 : Int) (a2 : Nat) (h : HF) : RO :=
  zjn (fun (x36_3 : Int) (h : HF) => (
    zjn (fun  (h : HF) => (
      some (0, h)
    )) fun j132 =>
    LX12_lay_39 F a0 a1 a2 j132 F x36_3 0 h
  )) fun j36 =>
  LX12_lay_5 F a0 a1 a2 0 j36 F 0 h
set_option maxHeartbeats 4000000 in
set_option maxRecDepth 100000 in
theorem mX12_lay (F : Nat) (l : Launch) (g : zG) (B : Nat) (h : HF) (a0 : Nat) (a1 : Int) (a2 : Nat) (ra0 : kt a0 = 15) (ra1 : rng a1) (ra2 : kt a2 = 0) : CTv l g B yX12_lay cX12_lay 7 3 [.ref (B + a0), .int (ii a1), .ref (B + a2)] h (fX12_lay F a0 a1 a2 h) := by
  refine z_enterV (by decide) rfl (Nat.le_of_ble_eq_true rfl) ?_
  intro p e s m args below meth c ls o Q cx hp hl hf hQ
  have hl : lv_has ls 7 [(0, .ref (B + a0)), (1, .int (ii a1)), (2, .ref (B + a2))] := hl
  unfold fX12_lay at hf
  refine z_iconst cx dX12_lay_0 ?_
  refine lv_istore_n (lv' := [(3, .int (ii 0)), (0, .ref (B + a0)), (1, .int (ii a1)), (2, .ref (B + a2))]) cx.1 cx.2.1 dX12_lay_1 rfl hl (by decide) rfl (fun ls hl => ?_)
  refine z_iconst cx dX12_lay_2 ?_
  refine lv_istore (lv' := [(4, .int (ii 0)), (3, .int (ii 0)), (0, .ref (B + a0)), (1, .int (ii a1)), (2, .ref (B + a2))]) cx.1 cx.2.1 dX12_lay_3 hl (by decide) rfl (fun ls hl => ?_)
  refine z_jn hf (fun j => ∀ (x36_3 : Int) (h : HF) (H : Heap) (locs : List Loc) (ls : Array Slot), rng x36_3 → Hp g B s h H locs → lv_has ls 7 [(0, .ref (B + a0)), (1, .int (ii a1)), (2, .ref (B + a2)), (3, .int (ii x36_3))] → j x36_3 h = some o → W p l e (rmn 3) s m args below meth c H locs 0 0 Q (F0 m 36 ls [])) ?_ (fun j36 hj36 hf => ?_)
  · intro x36_3 h H locs ls rx36_3 hp hl hf
    refine z_iconst cx dX12_lay_36 ?_
    refine lv_istore (lv' := [(4, .int (ii 0)), (0, .ref (B + a0)), (1, .int (ii a1)), (2, .ref (B + a2)), (3, .int (ii x36_3))]) cx.1 cx.2.1 dX12_lay_37 hl (by decide) rfl (fun ls hl => ?_)
    refine z_jn hf (fun j => ∀  (h : HF) (H : Heap) (locs : List Loc) (ls : Array Slot), Hp g B s h H locs → lv_has ls 7 [] → j  h = some o → W p l e (rmn 3) s m args below meth c H locs 0 0 Q (F0 m 132 ls [])) ?_ (fun j132 hj132 hf => ?_)
    · intro  h H locs ls  hp hl hf
      rw [hQ]; exact z_vret cx hp dX12_lay_132 hf
    exact wX12_lay_39 F cx a0 ra0 a1 ra1 a2 ra2 j132 hj132 F x36_3 0 h _ _ ls rx36_3 (by decide) hp (lv_sub hl [1, 2, 3, 4, 0] rfl) hf
  exact wX12_lay_5 F cx a0 ra0 a1 ra1 a2 ra2 0 (by decide) j36 hj36 F 0 h _ _ ls (by decide) hp (lv_sub hl [2, 3, 4, 1, 0] rfl) hf
theorem dX12_putLine_0 : decode cX12_putLine 0 = .ok (.aload_n 0, 1) := by decide +kernel
theorem dX12_putLine_1 : decode cX12_putLine 1 = .ok (.iload_n 1, 1) := by decide +kernel
theorem dX12_putLine_2 : decode cX12_putLine 2 = .ok (.invokevirtual 160, 3) := by decide +kernel
theorem dX12_putLine_5 : decode cX12_putLine 5 = .ok (.istore_n 3, 1) := by decide +kernel
theorem dX12_putLine_6 : decode cX12_putLine 6 = .ok (.iconst 0, 1) := by decide +kernel
theorem dX12_putLine_7 : decode cX12_putLine 7 = .ok (.istore 4, 2) := by decide +kernel
theorem dX12_putLine_9 : decode cX12_putLine 9 = .ok (.iload 4, 2) := by decide +kernel
theorem dX12_putLine_11 : decode cX12_putLine 11 = .ok (.iload_n 3, 1) := by decide +kernel
theorem dX12_putLine_12 : decode cX12_putLine 12 = .ok (.if_icmp .ge 25, 3) := by decide +kernel
theorem dX12_putLine_15 : decode cX12_putLine 15 = .ok (.aload_n 0, 1) := by decide +kernel
theorem dX12_putLine_16 : decode cX12_putLine 16 = .ok (.getfield 25, 3) := by decide +kernel
theorem dX12_putLine_19 : decode cX12_putLine 19 = .ok (.aload_n 0, 1) := by decide +kernel
theorem dX12_putLine_20 : decode cX12_putLine 20 = .ok (.iload_n 1, 1) := by decide +kernel
theorem dX12_putLine_21 : decode cX12_putLine 21 = .ok (.iload 4, 2) := by decide +kernel
theorem dX12_putLine_23 : decode cX12_putLine 23 = .ok (.invokevirtual 184, 3) := by decide +kernel
theorem dX12_putLine_26 : decode cX12_putLine 26 = .ok (.aload_n 2, 1) := by decide +kernel
theorem dX12_putLine_27 : decode cX12_putLine 27 = .ok (.iload 4, 2) := by decide +kernel
theorem dX12_putLine_29 : decode cX12_putLine 29 = .ok (.iaload, 1) := by decide +kernel
theorem dX12_putLine_30 : decode cX12_putLine 30 = .ok (.iastore, 1) := by decide +kernel
theorem dX12_putLine_31 : decode cX12_putLine 31 = .ok (.iinc 4 1, 3) := by decide +kernel
theorem dX12_putLine_34 : decode cX12_putLine 34 = .ok (.goto (-25), 3) := by decide +kernel
theorem dX12_putLine_37 : decode cX12_putLine 37 = .ok (.return_, 1) := by decide +kernel
def LX12_putLine_9 (F : Nat) (u0 : Nat) (u1 : Int) (u2 : Nat) (u3 : Int) (k37 : HF → RO) : Nat → Int → HF → RO
  | 0, _, _ => none
  | n + 1, v4, h =>
    if v4 < u3 then (
      zbd (fX12_lineAt F u0 u1 v4 h) fun r2 h =>
      zrd h u2 v4 fun x3 =>
      zwr h (u0 + 6) r2 x3 fun h =>
      zlet (wr (v4 + 1)) fun x4 =>
      LX12_putLine_9 F u0 u1 u2 u3 k37 n x4 h
    ) else (
      k37  h
    )
set_option maxHeartbeats 4000000 in
set_option maxRecDepth 100000 in
theorem wX12_putLine_9 {p : Program} {l : Launch} {e : Env} {s : State} {m : MethodId} {args : Array Value} {below : List Frame} {meth : Method} {c : Code} {Q : State → Prop} {g : zG} {B : Nat} {o : Int × HF} (F : Nat) (cx : Cx p s m args meth c cX12_putLine 5 RX12 none g B) (u0 : Nat) (ru0 : kt u0 = 15) (u1 : Int) (ru1 : rng u1) (u2 : Nat) (ru2 : kt u2 = 0) (u3 : Int) (ru3 : rng u3) (k37 : HF → RO) (hk37 : ∀  (h : HF) (H : Heap) (locs : List Loc) (ls : Array Slot), Hp g B s h H locs → lv_has ls 5 [] → k37  h = some o → W p l e (rmn 2) s m args below meth c H locs 0 0 Q (F0 m 37 ls [])) : ∀ (n : Nat) (v4 : Int) (h : HF) (H : Heap) (locs : List Loc) (ls : Array Slot), rng v4 → Hp g B s h H locs → lv_has ls 5 [(0, .ref (B + u0)), (1, .int (ii u1)), (2, .ref (B + u2)), (3, .int (ii u3)), (4, .int (ii v4))] → LX12_putLine_9 F u0 u1 u2 u3 k37 n v4 h = some o → W p l e (rmn 2) s m args below meth c H locs 0 0 Q (F0 m 9 ls []) := by
  intro n
  induction n with
  | zero =>
    intro v4 h H locs ls rv4 hp hl hf
    cases hf
  | succ n ih =>
    intro v4 h H locs ls rv4 hp hl hf
    rw [LX12_putLine_9] at hf
    refine lv_iload cx.1 cx.2.1 dX12_putLine_9 (lv_at hl 4 rfl) ?_
    refine lv_iload_n cx.1 cx.2.1 dX12_putLine_11 rfl (lv_at hl 3 rfl) ?_
    refine z_icmp_ge cx rv4 ru3 (tgt := 37) dX12_putLine_12 (by decide) hf (fun _ hf => ?_) (fun _ hf => ?_)
    · refine lv_aload_n cx.1 cx.2.1 dX12_putLine_15 rfl (lv_at hl 0 rfl) ?_
      refine z_gets cx hp (T := TX12) 12 9 (u0 + 6) rfl zin_12 (by decide) (by decide) ru0 rfl fl_X12_25 dX12_putLine_16 ?_
      refine lv_aload_n cx.1 cx.2.1 dX12_putLine_19 rfl (lv_at hl 0 rfl) ?_
      refine lv_iload_n cx.1 cx.2.1 dX12_putLine_20 rfl (lv_at hl 1 rfl) ?_
      refine lv_iload cx.1 cx.2.1 dX12_putLine_21 (lv_at hl 4 rfl) ?_
      refine z_ci cx hp (fun o' hx => zrunV (n := 2) (As := [.int (ii u1), .int (ii v4)]) (rest := [.ref (B + (u0 + 6))]) cx hp (mX12_lineAt F l g B h u0 u1 v4 ru0 ru1 rv4 o' hx) 12 ru0 (by decide) rfl vw_X12_lineAt ml_X12_184 (by decide) rfl hl.1 rfl (Nat.le_of_ble_eq_true rfl) dX12_putLine_23) hf (fun r2 h H locs rr2 hp hf => ?_)
      refine lv_aload_n cx.1 cx.2.1 dX12_putLine_26 rfl (lv_at hl 2 rfl) ?_
      refine lv_iload cx.1 cx.2.1 dX12_putLine_27 (lv_at hl 4 rfl) ?_
      refine z_iald cx hp ru2 rv4 dX12_putLine_29 hf (fun x3 rx3 hf => ?_)
      refine z_iast cx hp (zs_12_9 u0 (kt_lt ru0 (by decide)) ru0) rr2 rx3 dX12_putLine_30 hf (fun h H locs hp hf => ?_)
      refine z_iinc cx (fun x4 => [(4, .int (ii x4)), (0, .ref (B + u0)), (1, .int (ii u1)), (2, .ref (B + u2)), (3, .int (ii u3))]) dX12_putLine_31 hl (k := 4) rfl (by decide) (fun _ => rfl) hf (fun x4 rx4 hf ls hl => ?_)
      refine lv_goto (tgt := 9) cx.1 cx.2.1 dX12_putLine_34 (by decide) ?_
      exact ih x4 h _ _ ls rx4 hp (lv_sub hl [1, 2, 3, 4, 0] rfl) hf
    · exact hk37  h _ _ ls  hp (lv_sub hl [] rfl) hf
def fX12_putLine (F : Nat) (a0 : Nat) (a1 : Int) (a2 : Nat) (h : HF) : RO :=
  zbd (fX12_cellsOf F a0 a1 h) fun r1 h =>
  zjn (fun  (h : HF) => (
    some (0, h)
  )) fun j37 =>
  LX12_putLine_9 F a0 a1 a2 r1 j37 F 0 h
set_option maxHeartbeats 4000000 in
set_option maxRecDepth 100000 in
theorem mX12_putLine (F : Nat) (l : Launch) (g : zG) (B : Nat) (h : HF) (a0 : Nat) (a1 : Int) (a2 : Nat) (ra0 : kt a0 = 15) (ra1 : rng a1) (ra2 : kt a2 = 0) : CTv l g B yX12_putLine cX12_putLine 5 2 [.ref (B + a0), .int (ii a1), .ref (B + a2)] h (fX12_putLine F a0 a1 a2 h) := by
  refine z_enterV (by decide) rfl (Nat.le_of_ble_eq_true rfl) ?_
  intro p e s m args below meth c ls o Q cx hp hl hf hQ
  have hl : lv_has ls 5 [(0, .ref (B + a0)), (1, .int (ii a1)), (2, .ref (B + a2))] := hl
  unfold fX12_putLine at hf
  refine lv_aload_n cx.1 cx.2.1 dX12_putLine_0 rfl (lv_at hl 0 rfl) ?_
  refine lv_iload_n cx.1 cx.2.1 dX12_putLine_1 rfl (lv_at hl 1 rfl) ?_
  refine z_ci cx hp (fun o' hx => zrunV (n := 2) (As := [.int (ii a1)]) (rest := []) cx hp (mX12_cellsOf F l g B h a0 a1 ra0 ra1 o' hx) 12 ra0 (by decide) rfl vw_X12_cellsOf ml_X12_160 (by decide) rfl hl.1 rfl (Nat.le_of_ble_eq_true rfl) dX12_putLine_2) hf (fun r1 h H locs rr1 hp hf => ?_)
  refine lv_istore_n (lv' := [(3, .int (ii r1)), (0, .ref (B + a0)), (1, .int (ii a1)), (2, .ref (B + a2))]) cx.1 cx.2.1 dX12_putLine_5 rfl hl (by decide) rfl (fun ls hl => ?_)
  refine z_iconst cx dX12_putLine_6 ?_
  refine lv_istore (lv' := [(4, .int (ii 0)), (3, .int (ii r1)), (0, .ref (B + a0)), (1, .int (ii a1)), (2, .ref (B + a2))]) cx.1 cx.2.1 dX12_putLine_7 hl (by decide) rfl (fun ls hl => ?_)
  refine z_jn hf (fun j => ∀  (h : HF) (H : Heap) (locs : List Loc) (ls : Array Slot), Hp g B s h H locs → lv_has ls 5 [] → j  h = some o → W p l e (rmn 2) s m args below meth c H locs 0 0 Q (F0 m 37 ls [])) ?_ (fun j37 hj37 hf => ?_)
  · intro  h H locs ls  hp hl hf
    rw [hQ]; exact z_vret cx hp dX12_putLine_37 hf
  exact wX12_putLine_9 F cx a0 ra0 a1 ra1 a2 ra2 r1 rr1 j37 hj37 F 0 h _ _ ls (by decide) hp (lv_sub hl [2, 3, 4, 1, 0] rfl) hf
theorem dX12_turns_0 : decode cX12_turns 0 = .ok (.aload_n 0, 1) := by decide +kernel
theorem dX12_turns_1 : decode cX12_turns 1 = .ok (.iload_n 1, 1) := by decide +kernel
theorem dX12_turns_2 : decode cX12_turns 2 = .ok (.iload_n 1, 1) := by decide +kernel
theorem dX12_turns_3 : decode cX12_turns 3 = .ok (.iconst 3, 1) := by decide +kernel
theorem dX12_turns_4 : decode cX12_turns 4 = .ok (.iconst (-1), 1) := by decide +kernel
theorem dX12_turns_5 : decode cX12_turns 5 = .ok (.invokevirtual 365, 3) := by decide +kernel
theorem dX12_turns_8 : decode cX12_turns 8 = .ok (.istore_n 2, 1) := by decide +kernel
theorem dX12_turns_9 : decode cX12_turns 9 = .ok (.aload_n 0, 1) := by decide +kernel
theorem dX12_turns_10 : decode cX12_turns 10 = .ok (.getfield 311, 3) := by decide +kernel
theorem dX12_turns_13 : decode cX12_turns 13 = .ok (.ireturn, 1) := by decide +kernel
def fX12_turns (F : Nat) (a0 : Nat) (a1 : Int) (h : HF) : RO :=
  zbd (fX12_findMap F a0 a1 a1 3 (-1) h) fun r1 h =>
  zgf h a0 43 fun x2 =>
  some (x2, h)
set_option maxHeartbeats 4000000 in
set_option maxRecDepth 100000 in
theorem mX12_turns (F : Nat) (l : Launch) (g : zG) (B : Nat) (h : HF) (a0 : Nat) (a1 : Int) (ra0 : kt a0 = 15) (ra1 : rng a1) : CTi l g B yX12_turns cX12_turns 3 (some .int) 16 [.ref (B + a0), .int (ii a1)] h (fX12_turns F a0 a1 h) := by
  refine z_enterI (by decide) rfl (Nat.le_of_ble_eq_true rfl) ?_
  intro p e s m args below meth c ls o Q cx hp hl hf hQ
  have hl : lv_has ls 3 [(0, .ref (B + a0)), (1, .int (ii a1))] := hl
  unfold fX12_turns at hf
  refine lv_aload_n cx.1 cx.2.1 dX12_turns_0 rfl (lv_at hl 0 rfl) ?_
  refine lv_iload_n cx.1 cx.2.1 dX12_turns_1 rfl (lv_at hl 1 rfl) ?_
  refine lv_iload_n cx.1 cx.2.1 dX12_turns_2 rfl (lv_at hl 1 rfl) ?_
  refine z_iconst cx dX12_turns_3 ?_
  refine z_iconst cx dX12_turns_4 ?_
  refine z_ci cx hp (fun o' hx => zrunV (n := 16) (As := [.int (ii a1), .int (ii a1), .int (ii 3), .int (ii (-1))]) (rest := []) cx hp (mX12_findMap F l g B h a0 a1 a1 3 (-1) ra0 ra1 ra1 (by decide) (by decide) o' hx) 12 ra0 (by decide) rfl vw_X12_findMap ml_X12_365 (by decide) rfl hl.1 rfl (Nat.le_of_ble_eq_true rfl) dX12_turns_5) hf (fun r1 h H locs rr1 hp hf => ?_)
  refine lv_istore_n (lv' := [(2, .int (ii r1)), (0, .ref (B + a0)), (1, .int (ii a1))]) cx.1 cx.2.1 dX12_turns_8 rfl hl (by decide) rfl (fun ls hl => ?_)
  refine lv_aload_n cx.1 cx.2.1 dX12_turns_9 rfl (lv_at hl 1 rfl) ?_
  refine z_geti cx hp (T := TX12) 12 43 rfl zin_12 (by decide) (by decide) ra0 rfl fl_X12_311 dX12_turns_10 hf (fun x2 rx2 hf => ?_)
  rw [hQ]; exact z_iret cx hp rx2 dX12_turns_13 hf
theorem dX12_product_0 : decode cX12_product 0 = .ok (.aload_n 0, 1) := by decide +kernel
theorem dX12_product_1 : decode cX12_product 1 = .ok (.iconst 0, 1) := by decide +kernel
theorem dX12_product_2 : decode cX12_product 2 = .ok (.putfield 115, 3) := by decide +kernel
theorem dX12_product_5 : decode cX12_product 5 = .ok (.aload_n 0, 1) := by decide +kernel
theorem dX12_product_6 : decode cX12_product 6 = .ok (.iload_n 1, 1) := by decide +kernel
theorem dX12_product_7 : decode cX12_product 7 = .ok (.invokevirtual 146, 3) := by decide +kernel
theorem dX12_product_10 : decode cX12_product 10 = .ok (.ifCond .eq 19, 3) := by decide +kernel
theorem dX12_product_13 : decode cX12_product 13 = .ok (.aload_n 0, 1) := by decide +kernel
theorem dX12_product_14 : decode cX12_product 14 = .ok (.iload_n 2, 1) := by decide +kernel
theorem dX12_product_15 : decode cX12_product 15 = .ok (.invokevirtual 146, 3) := by decide +kernel
theorem dX12_product_18 : decode cX12_product 18 = .ok (.ifCond .eq 11, 3) := by decide +kernel
theorem dX12_product_21 : decode cX12_product 21 = .ok (.aload_n 0, 1) := by decide +kernel
theorem dX12_product_22 : decode cX12_product 22 = .ok (.iload_n 3, 1) := by decide +kernel
theorem dX12_product_23 : decode cX12_product 23 = .ok (.invokevirtual 146, 3) := by decide +kernel
theorem dX12_product_26 : decode cX12_product 26 = .ok (.ifCond .ne 6, 3) := by decide +kernel
theorem dX12_product_32 : decode cX12_product 32 = .ok (.aload_n 0, 1) := by decide +kernel
theorem dX12_product_33 : decode cX12_product 33 = .ok (.getfield 16, 3) := by decide +kernel
theorem dX12_product_36 : decode cX12_product 36 = .ok (.iload_n 1, 1) := by decide +kernel
theorem dX12_product_37 : decode cX12_product 37 = .ok (.iaload, 1) := by decide +kernel
theorem dX12_product_38 : decode cX12_product 38 = .ok (.ifCond .eq 12, 3) := by decide +kernel
theorem dX12_product_41 : decode cX12_product 41 = .ok (.aload_n 0, 1) := by decide +kernel
theorem dX12_product_42 : decode cX12_product 42 = .ok (.getfield 16, 3) := by decide +kernel
theorem dX12_product_45 : decode cX12_product 45 = .ok (.iload_n 2, 1) := by decide +kernel
theorem dX12_product_46 : decode cX12_product 46 = .ok (.iaload, 1) := by decide +kernel
theorem dX12_product_47 : decode cX12_product 47 = .ok (.ifCond .ne 6, 3) := by decide +kernel
theorem dX12_product_53 : decode cX12_product 53 = .ok (.aload_n 0, 1) := by decide +kernel
theorem dX12_product_54 : decode cX12_product 54 = .ok (.getfield 16, 3) := by decide +kernel
theorem dX12_product_57 : decode cX12_product 57 = .ok (.iload_n 2, 1) := by decide +kernel
theorem dX12_product_58 : decode cX12_product 58 = .ok (.iaload, 1) := by decide +kernel
theorem dX12_product_59 : decode cX12_product 59 = .ok (.istore 4, 2) := by decide +kernel
theorem dX12_product_61 : decode cX12_product 61 = .ok (.aload_n 0, 1) := by decide +kernel
theorem dX12_product_62 : decode cX12_product 62 = .ok (.getfield 16, 3) := by decide +kernel
theorem dX12_product_65 : decode cX12_product 65 = .ok (.iload_n 1, 1) := by decide +kernel
theorem dX12_product_66 : decode cX12_product 66 = .ok (.iaload, 1) := by decide +kernel
theorem dX12_product_67 : decode cX12_product 67 = .ok (.iload 4, 2) := by decide +kernel
theorem dX12_product_69 : decode cX12_product 69 = .ok (.imul, 1) := by decide +kernel
theorem dX12_product_70 : decode cX12_product 70 = .ok (.istore 5, 2) := by decide +kernel
theorem dX12_product_72 : decode cX12_product 72 = .ok (.aload_n 0, 1) := by decide +kernel
theorem dX12_product_73 : decode cX12_product 73 = .ok (.iload_n 1, 1) := by decide +kernel
theorem dX12_product_74 : decode cX12_product 74 = .ok (.iload_n 2, 1) := by decide +kernel
theorem dX12_product_75 : decode cX12_product 75 = .ok (.invokevirtual 359, 3) := by decide +kernel
theorem dX12_product_78 : decode cX12_product 78 = .ok (.ifCond .eq 10, 3) := by decide +kernel
theorem dX12_product_81 : decode cX12_product 81 = .ok (.iload 5, 2) := by decide +kernel
theorem dX12_product_83 : decode cX12_product 83 = .ok (.bipush 7, 2) := by decide +kernel
theorem dX12_product_85 : decode cX12_product 85 = .ok (.if_icmp .le 6, 3) := by decide +kernel
theorem dX12_product_91 : decode cX12_product 91 = .ok (.aload_n 0, 1) := by decide +kernel
theorem dX12_product_92 : decode cX12_product 92 = .ok (.iload_n 1, 1) := by decide +kernel
theorem dX12_product_93 : decode cX12_product 93 = .ok (.iload 5, 2) := by decide +kernel
theorem dX12_product_95 : decode cX12_product 95 = .ok (.invokevirtual 301, 3) := by decide +kernel
theorem dX12_product_98 : decode cX12_product 98 = .ok (.iconst 0, 1) := by decide +kernel
theorem dX12_product_99 : decode cX12_product 99 = .ok (.istore 6, 2) := by decide +kernel
theorem dX12_product_101 : decode cX12_product 101 = .ok (.iload 6, 2) := by decide +kernel
theorem dX12_product_103 : decode cX12_product 103 = .ok (.aload_n 0, 1) := by decide +kernel
theorem dX12_product_104 : decode cX12_product 104 = .ok (.getfield 19, 3) := by decide +kernel
theorem dX12_product_107 : decode cX12_product 107 = .ok (.iload_n 1, 1) := by decide +kernel
theorem dX12_product_108 : decode cX12_product 108 = .ok (.iaload, 1) := by decide +kernel
theorem dX12_product_109 : decode cX12_product 109 = .ok (.if_icmp .ge 105, 3) := by decide +kernel
theorem dX12_product_112 : decode cX12_product 112 = .ok (.iconst 0, 1) := by decide +kernel
theorem dX12_product_113 : decode cX12_product 113 = .ok (.istore 7, 2) := by decide +kernel
theorem dX12_product_115 : decode cX12_product 115 = .ok (.iload 7, 2) := by decide +kernel
theorem dX12_product_117 : decode cX12_product 117 = .ok (.aload_n 0, 1) := by decide +kernel
theorem dX12_product_118 : decode cX12_product 118 = .ok (.bipush 8, 2) := by decide +kernel
theorem dX12_product_120 : decode cX12_product 120 = .ok (.iload 6, 2) := by decide +kernel
theorem dX12_product_122 : decode cX12_product 122 = .ok (.iconst 0, 1) := by decide +kernel
theorem dX12_product_123 : decode cX12_product 123 = .ok (.invokevirtual 304, 3) := by decide +kernel
theorem dX12_product_126 : decode cX12_product 126 = .ok (.if_icmp .ge 82, 3) := by decide +kernel
theorem dX12_product_129 : decode cX12_product 129 = .ok (.iconst 0, 1) := by decide +kernel
theorem dX12_product_130 : decode cX12_product 130 = .ok (.istore 8, 2) := by decide +kernel
theorem dX12_product_132 : decode cX12_product 132 = .ok (.iload 8, 2) := by decide +kernel
theorem dX12_product_134 : decode cX12_product 134 = .ok (.aload_n 0, 1) := by decide +kernel
theorem dX12_product_135 : decode cX12_product 135 = .ok (.bipush 8, 2) := by decide +kernel
theorem dX12_product_137 : decode cX12_product 137 = .ok (.iload 6, 2) := by decide +kernel
theorem dX12_product_139 : decode cX12_product 139 = .ok (.iconst 1, 1) := by decide +kernel
theorem dX12_product_140 : decode cX12_product 140 = .ok (.invokevirtual 304, 3) := by decide +kernel
theorem dX12_product_143 : decode cX12_product 143 = .ok (.if_icmp .ge 59, 3) := by decide +kernel
theorem dX12_product_146 : decode cX12_product 146 = .ok (.aload_n 0, 1) := by decide +kernel
theorem dX12_product_147 : decode cX12_product 147 = .ok (.bipush 8, 2) := by decide +kernel
theorem dX12_product_149 : decode cX12_product 149 = .ok (.iload 6, 2) := by decide +kernel
theorem dX12_product_151 : decode cX12_product 151 = .ok (.iload 7, 2) := by decide +kernel
theorem dX12_product_153 : decode cX12_product 153 = .ok (.iload 8, 2) := by decide +kernel
theorem dX12_product_155 : decode cX12_product 155 = .ok (.aload_n 0, 1) := by decide +kernel
theorem dX12_product_156 : decode cX12_product 156 = .ok (.iload_n 1, 1) := by decide +kernel
theorem dX12_product_157 : decode cX12_product 157 = .ok (.iload 6, 2) := by decide +kernel
theorem dX12_product_159 : decode cX12_product 159 = .ok (.iload 7, 2) := by decide +kernel
theorem dX12_product_161 : decode cX12_product 161 = .ok (.iload 4, 2) := by decide +kernel
theorem dX12_product_163 : decode cX12_product 163 = .ok (.idiv, 1) := by decide +kernel
theorem dX12_product_164 : decode cX12_product 164 = .ok (.iload 8, 2) := by decide +kernel
theorem dX12_product_166 : decode cX12_product 166 = .ok (.iload 4, 2) := by decide +kernel
theorem dX12_product_168 : decode cX12_product 168 = .ok (.idiv, 1) := by decide +kernel
theorem dX12_product_169 : decode cX12_product 169 = .ok (.invokevirtual 178, 3) := by decide +kernel
theorem dX12_product_172 : decode cX12_product 172 = .ok (.iload 4, 2) := by decide +kernel
theorem dX12_product_174 : decode cX12_product 174 = .ok (.imul, 1) := by decide +kernel
theorem dX12_product_175 : decode cX12_product 175 = .ok (.aload_n 0, 1) := by decide +kernel
theorem dX12_product_176 : decode cX12_product 176 = .ok (.iload_n 2, 1) := by decide +kernel
theorem dX12_product_177 : decode cX12_product 177 = .ok (.iload 6, 2) := by decide +kernel
theorem dX12_product_179 : decode cX12_product 179 = .ok (.iload 7, 2) := by decide +kernel
theorem dX12_product_181 : decode cX12_product 181 = .ok (.iload 4, 2) := by decide +kernel
theorem dX12_product_183 : decode cX12_product 183 = .ok (.irem, 1) := by decide +kernel
theorem dX12_product_184 : decode cX12_product 184 = .ok (.iload 8, 2) := by decide +kernel
theorem dX12_product_186 : decode cX12_product 186 = .ok (.iload 4, 2) := by decide +kernel
theorem dX12_product_188 : decode cX12_product 188 = .ok (.irem, 1) := by decide +kernel
theorem dX12_product_189 : decode cX12_product 189 = .ok (.invokevirtual 178, 3) := by decide +kernel
theorem dX12_product_192 : decode cX12_product 192 = .ok (.iadd, 1) := by decide +kernel
theorem dX12_product_193 : decode cX12_product 193 = .ok (.invokevirtual 307, 3) := by decide +kernel
theorem dX12_product_196 : decode cX12_product 196 = .ok (.iinc 8 1, 3) := by decide +kernel
theorem dX12_product_199 : decode cX12_product 199 = .ok (.goto (-67), 3) := by decide +kernel
theorem dX12_product_202 : decode cX12_product 202 = .ok (.iinc 7 1, 3) := by decide +kernel
theorem dX12_product_205 : decode cX12_product 205 = .ok (.goto (-90), 3) := by decide +kernel
theorem dX12_product_208 : decode cX12_product 208 = .ok (.iinc 6 1, 3) := by decide +kernel
theorem dX12_product_211 : decode cX12_product 211 = .ok (.goto (-110), 3) := by decide +kernel
theorem dX12_product_214 : decode cX12_product 214 = .ok (.aload_n 0, 1) := by decide +kernel
theorem dX12_product_215 : decode cX12_product 215 = .ok (.iload_n 3, 1) := by decide +kernel
theorem dX12_product_216 : decode cX12_product 216 = .ok (.invokevirtual 153, 3) := by decide +kernel
theorem dX12_product_219 : decode cX12_product 219 = .ok (.aload_n 0, 1) := by decide +kernel
theorem dX12_product_220 : decode cX12_product 220 = .ok (.bipush 8, 2) := by decide +kernel
theorem dX12_product_222 : decode cX12_product 222 = .ok (.iload_n 3, 1) := by decide +kernel
theorem dX12_product_223 : decode cX12_product 223 = .ok (.invokevirtual 202, 3) := by decide +kernel
theorem dX12_product_226 : decode cX12_product 226 = .ok (.iload 5, 2) := by decide +kernel
theorem dX12_product_228 : decode cX12_product 228 = .ok (.ireturn, 1) := by decide +kernel
theorem dX12_product_88 : decode cX12_product 88 = .ok (.bipush (-4), 2) := by decide +kernel
theorem dX12_product_90 : decode cX12_product 90 = .ok (.ireturn, 1) := by decide +kernel
theorem dX12_product_50 : decode cX12_product 50 = .ok (.bipush (-2), 2) := by decide +kernel
theorem dX12_product_52 : decode cX12_product 52 = .ok (.ireturn, 1) := by decide +kernel
theorem dX12_product_29 : decode cX12_product 29 = .ok (.bipush (-3), 2) := by decide +kernel
theorem dX12_product_31 : decode cX12_product 31 = .ok (.ireturn, 1) := by decide +kernel
def LX12_product_132 (F : Nat) (u0 : Nat) (u1 : Int) (u2 : Int) (u3 : Int) (u4 : Int) (u5 : Int) (u6 : Int) (u7 : Int) (k202 : Int → HF → RO) : Nat → Int → HF → RO
  | 0, _, _ => none
  | n + 1, v8, h =>
    zbd (fX12_upTo F u0 8 u6 1 h) fun r17 h =>
    if v8 < r17 then (
      zdv u4 <|
      zdv u4 <|
      zbd (fX12_value F u0 u1 u6 (wdiv u7 u4) (wdiv v8 u4) h) fun r18 h =>
      zdv u4 <|
      zdv u4 <|
      zbd (fX12_value F u0 u2 u6 (wrem u7 u4) (wrem v8 u4) h) fun r19 h =>
      zbd (fX12_setAt F u0 8 u6 u7 v8 (wr ((wr (r18 * u4)) + r19)) h) fun _ h =>
      zlet (wr (v8 + 1)) fun x21 =>
      LX12_product_132 F u0 u1 u2 u3 u4 u5 u6 u7 k202 n x21 h
    ) else (
      k202 u7 h
    )
set_option maxHeartbeats 4000000 in
set_option maxRecDepth 100000 in
theorem wX12_product_132 {p : Program} {l : Launch} {e : Env} {s : State} {m : MethodId} {args : Array Value} {below : List Frame} {meth : Method} {c : Code} {Q : State → Prop} {g : zG} {B : Nat} {o : Int × HF} (F : Nat) (cx : Cx p s m args meth c cX12_product 9 RX12 (some .int) g B) (u0 : Nat) (ru0 : kt u0 = 15) (u1 : Int) (ru1 : rng u1) (u2 : Int) (ru2 : rng u2) (u3 : Int) (ru3 : rng u3) (u4 : Int) (ru4 : rng u4) (u5 : Int) (ru5 : rng u5) (u6 : Int) (ru6 : rng u6) (u7 : Int) (ru7 : rng u7) (k202 : Int → HF → RO) (hk202 : ∀ (x7 : Int) (h : HF) (H : Heap) (locs : List Loc) (ls : Array Slot), rng x7 → Hp g B s h H locs → lv_has ls 9 [(0, .ref (B + u0)), (1, .int (ii u1)), (2, .int (ii u2)), (3, .int (ii u3)), (4, .int (ii u4)), (5, .int (ii u5)), (6, .int (ii u6)), (7, .int (ii x7))] → k202 x7 h = some o → W p l e (rmn 3) s m args below meth c H locs 0 0 Q (F0 m 202 ls [])) : ∀ (n : Nat) (v8 : Int) (h : HF) (H : Heap) (locs : List Loc) (ls : Array Slot), rng v8 → Hp g B s h H locs → lv_has ls 9 [(0, .ref (B + u0)), (1, .int (ii u1)), (2, .int (ii u2)), (3, .int (ii u3)), (4, .int (ii u4)), (5, .int (ii u5)), (6, .int (ii u6)), (7, .int (ii u7)), (8, .int (ii v8))] → LX12_product_132 F u0 u1 u2 u3 u4 u5 u6 u7 k202 n v8 h = some o → W p l e (rmn 3) s m args below meth c H locs 0 0 Q (F0 m 132 ls []) := by
  intro n
  induction n with
  | zero =>
    intro v8 h H locs ls rv8 hp hl hf
    cases hf
  | succ n ih =>
    intro v8 h H locs ls rv8 hp hl hf
    rw [LX12_product_132] at hf
    refine lv_iload cx.1 cx.2.1 dX12_product_132 (lv_at hl 8 rfl) ?_
    refine lv_aload_n cx.1 cx.2.1 dX12_product_134 rfl (lv_at hl 0 rfl) ?_
    refine z_bipush cx (by decide) dX12_product_135 ?_
    refine lv_iload cx.1 cx.2.1 dX12_product_137 (lv_at hl 6 rfl) ?_
    refine z_iconst cx dX12_product_139 ?_
    refine z_ci cx hp (fun o' hx => zrunV (n := 3) (As := [.int (ii 8), .int (ii u6), .int (ii 1)]) (rest := [.int (ii v8)]) cx hp (mX12_upTo F l g B h u0 8 u6 1 ru0 (by decide) ru6 (by decide) o' hx) 12 ru0 (by decide) rfl vw_X12_upTo ml_X12_304 (by decide) rfl hl.1 rfl (Nat.le_of_ble_eq_true rfl) dX12_product_140) hf (fun r17 h H locs rr17 hp hf => ?_)
    refine z_icmp_ge cx rv8 rr17 (tgt := 202) dX12_product_143 (by decide) hf (fun _ hf => ?_) (fun _ hf => ?_)
    · refine lv_aload_n cx.1 cx.2.1 dX12_product_146 rfl (lv_at hl 0 rfl) ?_
      refine z_bipush cx (by decide) dX12_product_147 ?_
      refine lv_iload cx.1 cx.2.1 dX12_product_149 (lv_at hl 6 rfl) ?_
      refine lv_iload cx.1 cx.2.1 dX12_product_151 (lv_at hl 7 rfl) ?_
      refine lv_iload cx.1 cx.2.1 dX12_product_153 (lv_at hl 8 rfl) ?_
      refine lv_aload_n cx.1 cx.2.1 dX12_product_155 rfl (lv_at hl 0 rfl) ?_
      refine lv_iload_n cx.1 cx.2.1 dX12_product_156 rfl (lv_at hl 1 rfl) ?_
      refine lv_iload cx.1 cx.2.1 dX12_product_157 (lv_at hl 6 rfl) ?_
      refine lv_iload cx.1 cx.2.1 dX12_product_159 (lv_at hl 7 rfl) ?_
      refine lv_iload cx.1 cx.2.1 dX12_product_161 (lv_at hl 4 rfl) ?_
      refine z_idiv cx ru7 ru4 dX12_product_163 hf (fun hf => ?_)
      refine lv_iload cx.1 cx.2.1 dX12_product_164 (lv_at hl 8 rfl) ?_
      refine lv_iload cx.1 cx.2.1 dX12_product_166 (lv_at hl 4 rfl) ?_
      refine z_idiv cx rv8 ru4 dX12_product_168 hf (fun hf => ?_)
      refine z_ci cx hp (fun o' hx => zrunV (n := 3) (As := [.int (ii u1), .int (ii u6), .int (ii (wdiv u7 u4)), .int (ii (wdiv v8 u4))]) (rest := [.int (ii v8), .int (ii u7), .int (ii u6), .int (ii 8), .ref (B + u0)]) cx hp (mX12_value F l g B h u0 u1 u6 (wdiv u7 u4) (wdiv v8 u4) ru0 ru1 ru6 (rng_div _ _) (rng_div _ _) o' hx) 12 ru0 (by decide) rfl vw_X12_value ml_X12_178 (by decide) rfl hl.1 rfl (Nat.le_of_ble_eq_true rfl) dX12_product_169) hf (fun r18 h H locs rr18 hp hf => ?_)
      refine lv_iload cx.1 cx.2.1 dX12_product_172 (lv_at hl 4 rfl) ?_
      refine z_imul cx dX12_product_174 ?_
      refine lv_aload_n cx.1 cx.2.1 dX12_product_175 rfl (lv_at hl 0 rfl) ?_
      refine lv_iload_n cx.1 cx.2.1 dX12_product_176 rfl (lv_at hl 2 rfl) ?_
      refine lv_iload cx.1 cx.2.1 dX12_product_177 (lv_at hl 6 rfl) ?_
      refine lv_iload cx.1 cx.2.1 dX12_product_179 (lv_at hl 7 rfl) ?_
      refine lv_iload cx.1 cx.2.1 dX12_product_181 (lv_at hl 4 rfl) ?_
      refine z_irem cx ru7 ru4 dX12_product_183 hf (fun hf => ?_)
      refine lv_iload cx.1 cx.2.1 dX12_product_184 (lv_at hl 8 rfl) ?_
      refine lv_iload cx.1 cx.2.1 dX12_product_186 (lv_at hl 4 rfl) ?_
      refine z_irem cx rv8 ru4 dX12_product_188 hf (fun hf => ?_)
      refine z_ci cx hp (fun o' hx => zrunV (n := 3) (As := [.int (ii u2), .int (ii u6), .int (ii (wrem u7 u4)), .int (ii (wrem v8 u4))]) (rest := [.int (ii (wr (r18 * u4))), .int (ii v8), .int (ii u7), .int (ii u6), .int (ii 8), .ref (B + u0)]) cx hp (mX12_value F l g B h u0 u2 u6 (wrem u7 u4) (wrem v8 u4) ru0 ru2 ru6 (rng_rem _ _) (rng_rem _ _) o' hx) 12 ru0 (by decide) rfl vw_X12_value ml_X12_178 (by decide) rfl hl.1 rfl (Nat.le_of_ble_eq_true rfl) dX12_product_189) hf (fun r19 h H locs rr19 hp hf => ?_)
      refine z_iadd cx dX12_product_192 ?_
      refine z_cv cx hp (fun o' hx => zrunV (n := 3) (As := [.int (ii 8), .int (ii u6), .int (ii u7), .int (ii v8), .int (ii (wr ((wr (r18 * u4)) + r19)))]) (rest := []) cx hp (mX12_setAt F l g B h u0 8 u6 u7 v8 (wr ((wr (r18 * u4)) + r19)) ru0 (by decide) ru6 ru7 rv8 (rng_wr _) o' hx) 12 ru0 (by decide) rfl vw_X12_setAt ml_X12_307 (by decide) rfl hl.1 rfl (Nat.le_of_ble_eq_true rfl) dX12_product_193) hf (fun _ h H locs hp hf => ?_)
      refine z_iinc cx (fun x21 => [(8, .int (ii x21)), (0, .ref (B + u0)), (1, .int (ii u1)), (2, .int (ii u2)), (3, .int (ii u3)), (4, .int (ii u4)), (5, .int (ii u5)), (6, .int (ii u6)), (7, .int (ii u7))]) dX12_product_196 hl (k := 8) rfl (by decide) (fun _ => rfl) hf (fun x21 rx21 hf ls hl => ?_)
      refine lv_goto (tgt := 132) cx.1 cx.2.1 dX12_product_199 (by decide) ?_
      exact ih x21 h _ _ ls rx21 hp (lv_sub hl [1, 2, 3, 4, 5, 6, 7, 8, 0] rfl) hf
    · exact hk202 u7 h _ _ ls ru7 hp (lv_sub hl [0, 1, 2, 3, 4, 5, 6, 7] rfl) hf
def LX12_product_115 (F : Nat) (u0 : Nat) (u1 : Int) (u2 : Int) (u3 : Int) (u4 : Int) (u5 : Int) (u6 : Int) (k208 : Int → HF → RO) : Nat → Int → HF → RO
  | 0, _, _ => none
  | n + 1, v7, h =>
    zbd (fX12_upTo F u0 8 u6 0 h) fun r15 h =>
    if v7 < r15 then (
      zjn (fun (x202_7 : Int) (h : HF) => (
        zlet (wr (x202_7 + 1)) fun x16 =>
        LX12_product_115 F u0 u1 u2 u3 u4 u5 u6 k208 n x16 h
      )) fun j202 =>
      LX12_product_132 F u0 u1 u2 u3 u4 u5 u6 v7 j202 F 0 h
    ) else (
      k208 u6 h
    )
set_option maxHeartbeats 4000000 in
set_option maxRecDepth 100000 in
theorem wX12_product_115 {p : Program} {l : Launch} {e : Env} {s : State} {m : MethodId} {args : Array Value} {below : List Frame} {meth : Method} {c : Code} {Q : State → Prop} {g : zG} {B : Nat} {o : Int × HF} (F : Nat) (cx : Cx p s m args meth c cX12_product 9 RX12 (some .int) g B) (u0 : Nat) (ru0 : kt u0 = 15) (u1 : Int) (ru1 : rng u1) (u2 : Int) (ru2 : rng u2) (u3 : Int) (ru3 : rng u3) (u4 : Int) (ru4 : rng u4) (u5 : Int) (ru5 : rng u5) (u6 : Int) (ru6 : rng u6) (k208 : Int → HF → RO) (hk208 : ∀ (x6 : Int) (h : HF) (H : Heap) (locs : List Loc) (ls : Array Slot), rng x6 → Hp g B s h H locs → lv_has ls 9 [(0, .ref (B + u0)), (1, .int (ii u1)), (2, .int (ii u2)), (3, .int (ii u3)), (4, .int (ii u4)), (5, .int (ii u5)), (6, .int (ii x6))] → k208 x6 h = some o → W p l e (rmn 3) s m args below meth c H locs 0 0 Q (F0 m 208 ls [])) : ∀ (n : Nat) (v7 : Int) (h : HF) (H : Heap) (locs : List Loc) (ls : Array Slot), rng v7 → Hp g B s h H locs → lv_has ls 9 [(0, .ref (B + u0)), (1, .int (ii u1)), (2, .int (ii u2)), (3, .int (ii u3)), (4, .int (ii u4)), (5, .int (ii u5)), (6, .int (ii u6)), (7, .int (ii v7))] → LX12_product_115 F u0 u1 u2 u3 u4 u5 u6 k208 n v7 h = some o → W p l e (rmn 3) s m args below meth c H locs 0 0 Q (F0 m 115 ls []) := by
  intro n
  induction n with
  | zero =>
    intro v7 h H locs ls rv7 hp hl hf
    cases hf
  | succ n ih =>
    intro v7 h H locs ls rv7 hp hl hf
    rw [LX12_product_115] at hf
    refine lv_iload cx.1 cx.2.1 dX12_product_115 (lv_at hl 7 rfl) ?_
    refine lv_aload_n cx.1 cx.2.1 dX12_product_117 rfl (lv_at hl 0 rfl) ?_
    refine z_bipush cx (by decide) dX12_product_118 ?_
    refine lv_iload cx.1 cx.2.1 dX12_product_120 (lv_at hl 6 rfl) ?_
    refine z_iconst cx dX12_product_122 ?_
    refine z_ci cx hp (fun o' hx => zrunV (n := 3) (As := [.int (ii 8), .int (ii u6), .int (ii 0)]) (rest := [.int (ii v7)]) cx hp (mX12_upTo F l g B h u0 8 u6 0 ru0 (by decide) ru6 (by decide) o' hx) 12 ru0 (by decide) rfl vw_X12_upTo ml_X12_304 (by decide) rfl hl.1 rfl (Nat.le_of_ble_eq_true rfl) dX12_product_123) hf (fun r15 h H locs rr15 hp hf => ?_)
    refine z_icmp_ge cx rv7 rr15 (tgt := 208) dX12_product_126 (by decide) hf (fun _ hf => ?_) (fun _ hf => ?_)
    · refine z_iconst cx dX12_product_129 ?_
      refine lv_istore (lv' := [(8, .int (ii 0)), (0, .ref (B + u0)), (1, .int (ii u1)), (2, .int (ii u2)), (3, .int (ii u3)), (4, .int (ii u4)), (5, .int (ii u5)), (6, .int (ii u6)), (7, .int (ii v7))]) cx.1 cx.2.1 dX12_product_130 hl (by decide) rfl (fun ls hl => ?_)
      refine z_jn hf (fun j => ∀ (x202_7 : Int) (h : HF) (H : Heap) (locs : List Loc) (ls : Array Slot), rng x202_7 → Hp g B s h H locs → lv_has ls 9 [(0, .ref (B + u0)), (1, .int (ii u1)), (2, .int (ii u2)), (3, .int (ii u3)), (4, .int (ii u4)), (5, .int (ii u5)), (6, .int (ii u6)), (7, .int (ii x202_7))] → j x202_7 h = some o → W p l e (rmn 3) s m args below meth c H locs 0 0 Q (F0 m 202 ls [])) ?_ (fun j202 hj202 hf => ?_)
      · intro x202_7 h H locs ls rx202_7 hp hl hf
        refine z_iinc cx (fun x16 => [(7, .int (ii x16)), (0, .ref (B + u0)), (1, .int (ii u1)), (2, .int (ii u2)), (3, .int (ii u3)), (4, .int (ii u4)), (5, .int (ii u5)), (6, .int (ii u6))]) dX12_product_202 hl (k := 7) rfl (by decide) (fun _ => rfl) hf (fun x16 rx16 hf ls hl => ?_)
        refine lv_goto (tgt := 115) cx.1 cx.2.1 dX12_product_205 (by decide) ?_
        exact ih x16 h _ _ ls rx16 hp (lv_sub hl [1, 2, 3, 4, 5, 6, 7, 0] rfl) hf
      exact wX12_product_132 F cx u0 ru0 u1 ru1 u2 ru2 u3 ru3 u4 ru4 u5 ru5 u6 ru6 v7 rv7 j202 hj202 F 0 h _ _ ls (by decide) hp (lv_sub hl [1, 2, 3, 4, 5, 6, 7, 8, 0] rfl) hf
    · exact hk208 u6 h _ _ ls ru6 hp (lv_sub hl [0, 1, 2, 3, 4, 5, 6] rfl) hf
def LX12_product_101 (F : Nat) (u0 : Nat) (u1 : Int) (u2 : Int) (u3 : Int) (u4 : Int) (u5 : Int) (k214 : Int → HF → RO) : Nat → Int → HF → RO
  | 0, _, _ => none
  | n + 1, v6, h =>
    zrd h (u0 + 4) u1 fun x13 =>
    if v6 < x13 then (
      zjn (fun (x208_6 : Int) (h : HF) => (
        zlet (wr (x208_6 + 1)) fun x14 =>
        LX12_product_101 F u0 u1 u2 u3 u4 u5 k214 n x14 h
      )) fun j208 =>
      LX12_product_115 F u0 u1 u2 u3 u4 u5 v6 j208 F 0 h
    ) else (
      k214 u5 h
    )
set_option maxHeartbeats 4000000 in
set_option maxRecDepth 100000 in
theorem wX12_product_101 {p : Program} {l : Launch} {e : Env} {s : State} {m : MethodId} {args : Array Value} {below : List Frame} {meth : Method} {c : Code} {Q : State → Prop} {g : zG} {B : Nat} {o : Int × HF} (F : Nat) (cx : Cx p s m args meth c cX12_product 9 RX12 (some .int) g B) (u0 : Nat) (ru0 : kt u0 = 15) (u1 : Int) (ru1 : rng u1) (u2 : Int) (ru2 : rng u2) (u3 : Int) (ru3 : rng u3) (u4 : Int) (ru4 : rng u4) (u5 : Int) (ru5 : rng u5) (k214 : Int → HF → RO) (hk214 : ∀ (x5 : Int) (h : HF) (H : Heap) (locs : List Loc) (ls : Array Slot), rng x5 → Hp g B s h H locs → lv_has ls 9 [(0, .ref (B + u0)), (3, .int (ii u3)), (5, .int (ii x5))] → k214 x5 h = some o → W p l e (rmn 3) s m args below meth c H locs 0 0 Q (F0 m 214 ls [])) : ∀ (n : Nat) (v6 : Int) (h : HF) (H : Heap) (locs : List Loc) (ls : Array Slot), rng v6 → Hp g B s h H locs → lv_has ls 9 [(0, .ref (B + u0)), (1, .int (ii u1)), (2, .int (ii u2)), (3, .int (ii u3)), (4, .int (ii u4)), (5, .int (ii u5)), (6, .int (ii v6))] → LX12_product_101 F u0 u1 u2 u3 u4 u5 k214 n v6 h = some o → W p l e (rmn 3) s m args below meth c H locs 0 0 Q (F0 m 101 ls []) := by
  intro n
  induction n with
  | zero =>
    intro v6 h H locs ls rv6 hp hl hf
    cases hf
  | succ n ih =>
    intro v6 h H locs ls rv6 hp hl hf
    rw [LX12_product_101] at hf
    refine lv_iload cx.1 cx.2.1 dX12_product_101 (lv_at hl 6 rfl) ?_
    refine lv_aload_n cx.1 cx.2.1 dX12_product_103 rfl (lv_at hl 0 rfl) ?_
    refine z_gets cx hp (T := TX12) 12 7 (u0 + 4) rfl zin_12 (by decide) (by decide) ru0 rfl fl_X12_19 dX12_product_104 ?_
    refine lv_iload_n cx.1 cx.2.1 dX12_product_107 rfl (lv_at hl 1 rfl) ?_
    refine z_iald cx hp (zs_12_7 u0 (kt_lt ru0 (by decide)) ru0) ru1 dX12_product_108 hf (fun x13 rx13 hf => ?_)
    refine z_icmp_ge cx rv6 rx13 (tgt := 214) dX12_product_109 (by decide) hf (fun _ hf => ?_) (fun _ hf => ?_)
    · refine z_iconst cx dX12_product_112 ?_
      refine lv_istore (lv' := [(7, .int (ii 0)), (0, .ref (B + u0)), (1, .int (ii u1)), (2, .int (ii u2)), (3, .int (ii u3)), (4, .int (ii u4)), (5, .int (ii u5)), (6, .int (ii v6))]) cx.1 cx.2.1 dX12_product_113 hl (by decide) rfl (fun ls hl => ?_)
      refine z_jn hf (fun j => ∀ (x208_6 : Int) (h : HF) (H : Heap) (locs : List Loc) (ls : Array Slot), rng x208_6 → Hp g B s h H locs → lv_has ls 9 [(0, .ref (B + u0)), (1, .int (ii u1)), (2, .int (ii u2)), (3, .int (ii u3)), (4, .int (ii u4)), (5, .int (ii u5)), (6, .int (ii x208_6))] → j x208_6 h = some o → W p l e (rmn 3) s m args below meth c H locs 0 0 Q (F0 m 208 ls [])) ?_ (fun j208 hj208 hf => ?_)
      · intro x208_6 h H locs ls rx208_6 hp hl hf
        refine z_iinc cx (fun x14 => [(6, .int (ii x14)), (0, .ref (B + u0)), (1, .int (ii u1)), (2, .int (ii u2)), (3, .int (ii u3)), (4, .int (ii u4)), (5, .int (ii u5))]) dX12_product_208 hl (k := 6) rfl (by decide) (fun _ => rfl) hf (fun x14 rx14 hf ls hl => ?_)
        refine lv_goto (tgt := 101) cx.1 cx.2.1 dX12_product_211 (by decide) ?_
        exact ih x14 h _ _ ls rx14 hp (lv_sub hl [1, 2, 3, 4, 5, 6, 0] rfl) hf
      exact wX12_product_115 F cx u0 ru0 u1 ru1 u2 ru2 u3 ru3 u4 ru4 u5 ru5 v6 rv6 j208 hj208 F 0 h _ _ ls (by decide) hp (lv_sub hl [1, 2, 3, 4, 5, 6, 7, 0] rfl) hf
    · exact hk214 u5 h _ _ ls ru5 hp (lv_sub hl [0, 3, 5] rfl) hf
def fX12_product (F : Nat) (a0 : Nat) (a1 : Int) (a2 : Int) (a3 : Int) (h : HF) : RO :=
  zpf h a0 0 0 fun h =>
  zbd (fX12_isDrawer F a0 a1 h) fun r1 h =>
  zjn (fun  (h : HF) => (
    some ((-3), h)
  )) fun j29 =>
  if r1 = 0 then (
    j29  h
  ) else (
    zbd (fX12_isDrawer F a0 a2 h) fun r2 h =>
    if r2 = 0 then (
      j29  h
    ) else (
      zbd (fX12_isDrawer F a0 a3 h) fun r3 h =>
      if r3 = 0 then (
        j29  h
      ) else (
        zrd h (a0 + 3) a1 fun x4 =>
        zjn (fun  (h : HF) => (
          some ((-2), h)
        )) fun j50 =>
        if x4 = 0 then (
          j50  h
        ) else (
          zrd h (a0 + 3) a2 fun x5 =>
          if x5 = 0 then (
            j50  h
          ) else (
            zrd h (a0 + 3) a2 fun x6 =>
            zrd h (a0 + 3) a1 fun x7 =>
            zlet (wr (x7 * x6)) fun x8 =>
            zbd (fX12_isOneSignature F a0 a1 a2 h) fun r9 h =>
            zjn (fun  (h : HF) => (
              some ((-4), h)
            )) fun j88 =>
            if r9 = 0 then (
              j88  h
            ) else (
              if 7 < x8 then (
                j88  h
              ) else (
                zbd (fX12_like F a0 a1 x8 h) fun _ h =>
                zjn (fun (x214_5 : Int) (h : HF) => (
                  zbd (fX12_keep F a0 a3 h) fun _ h =>
                  zbd (fX12_copy F a0 8 a3 h) fun _ h =>
                  some (x214_5, h)
                )) fun j214 =>
                LX12_product_101 F a0 a1 a2 a3 x6 x8 j214 F 0 h
              )
            )
          )
        )
      )
    )
  )
set_option maxHeartbeats 4000000 in
set_option maxRecDepth 100000 in
theorem mX12_product (F : Nat) (l : Launch) (g : zG) (B : Nat) (h : HF) (a0 : Nat) (a1 : Int) (a2 : Int) (a3 : Int) (ra0 : kt a0 = 15) (ra1 : rng a1) (ra2 : rng a2) (ra3 : rng a3) : CTi l g B yX12_product cX12_product 9 (some .int) 3 [.ref (B + a0), .int (ii a1), .int (ii a2), .int (ii a3)] h (fX12_product F a0 a1 a2 a3 h) := by
  refine z_enterI (by decide) rfl (Nat.le_of_ble_eq_true rfl) ?_
  intro p e s m args below meth c ls o Q cx hp hl hf hQ
  have hl : lv_has ls 9 [(0, .ref (B + a0)), (1, .int (ii a1)), (2, .int (ii a2)), (3, .int (ii a3))] := hl
  unfold fX12_product at hf
  refine lv_aload_n cx.1 cx.2.1 dX12_product_0 rfl (lv_at hl 0 rfl) ?_
  refine z_iconst cx dX12_product_1 ?_
  refine z_puti cx hp (T := TX12) tyX12 tyX12_ok nmX12 12 0 (by decide) rfl zin_12 (by decide) (by decide) ra0 rfl rfl rfl fl_X12_115 dX12_product_2 hf (fun h H locs hp hf => ?_)
  refine lv_aload_n cx.1 cx.2.1 dX12_product_5 rfl (lv_at hl 0 rfl) ?_
  refine lv_iload_n cx.1 cx.2.1 dX12_product_6 rfl (lv_at hl 1 rfl) ?_
  refine z_ci cx hp (fun o' hx => zrunV (n := 3) (As := [.int (ii a1)]) (rest := []) cx hp (mX12_isDrawer F l g B h a0 a1 ra0 ra1 o' hx) 12 ra0 (by decide) rfl vw_X12_isDrawer ml_X12_146 (by decide) rfl hl.1 rfl (Nat.le_of_ble_eq_true rfl) dX12_product_7) hf (fun r1 h H locs rr1 hp hf => ?_)
  refine z_jn hf (fun j => ∀  (h : HF) (H : Heap) (locs : List Loc) (ls : Array Slot), Hp g B s h H locs → lv_has ls 9 [] → j  h = some o → W p l e (rmn 3) s m args below meth c H locs 0 0 Q (F0 m 29 ls [])) ?_ (fun j29 hj29 hf => ?_)
  · intro  h H locs ls  hp hl hf
    refine z_bipush cx (by decide) dX12_product_29 ?_
    rw [hQ]; exact z_iret cx hp (by decide) dX12_product_31 hf
  refine z_if_eq cx rr1 (tgt := 29) dX12_product_10 (by decide) hf (fun _ hf => ?_) (fun _ hf => ?_)
  · exact hj29  h _ _ ls  hp (lv_sub hl [] rfl) hf
  · refine lv_aload_n cx.1 cx.2.1 dX12_product_13 rfl (lv_at hl 0 rfl) ?_
    refine lv_iload_n cx.1 cx.2.1 dX12_product_14 rfl (lv_at hl 2 rfl) ?_
    refine z_ci cx hp (fun o' hx => zrunV (n := 3) (As := [.int (ii a2)]) (rest := []) cx hp (mX12_isDrawer F l g B h a0 a2 ra0 ra2 o' hx) 12 ra0 (by decide) rfl vw_X12_isDrawer ml_X12_146 (by decide) rfl hl.1 rfl (Nat.le_of_ble_eq_true rfl) dX12_product_15) hf (fun r2 h H locs rr2 hp hf => ?_)
    refine z_if_eq cx rr2 (tgt := 29) dX12_product_18 (by decide) hf (fun _ hf => ?_) (fun _ hf => ?_)
    · exact hj29  h _ _ ls  hp (lv_sub hl [] rfl) hf
    · refine lv_aload_n cx.1 cx.2.1 dX12_product_21 rfl (lv_at hl 0 rfl) ?_
      refine lv_iload_n cx.1 cx.2.1 dX12_product_22 rfl (lv_at hl 3 rfl) ?_
      refine z_ci cx hp (fun o' hx => zrunV (n := 3) (As := [.int (ii a3)]) (rest := []) cx hp (mX12_isDrawer F l g B h a0 a3 ra0 ra3 o' hx) 12 ra0 (by decide) rfl vw_X12_isDrawer ml_X12_146 (by decide) rfl hl.1 rfl (Nat.le_of_ble_eq_true rfl) dX12_product_23) hf (fun r3 h H locs rr3 hp hf => ?_)
      refine z_if_ne cx rr3 (tgt := 32) dX12_product_26 (by decide) hf (fun _ hf => ?_) (fun _ hf => ?_)
      · exact hj29  h _ _ ls  hp (lv_sub hl [] rfl) hf
      · refine lv_aload_n cx.1 cx.2.1 dX12_product_32 rfl (lv_at hl 0 rfl) ?_
        refine z_gets cx hp (T := TX12) 12 6 (a0 + 3) rfl zin_12 (by decide) (by decide) ra0 rfl fl_X12_16 dX12_product_33 ?_
        refine lv_iload_n cx.1 cx.2.1 dX12_product_36 rfl (lv_at hl 1 rfl) ?_
        refine z_iald cx hp (zs_12_6 a0 (kt_lt ra0 (by decide)) ra0) ra1 dX12_product_37 hf (fun x4 rx4 hf => ?_)
        refine z_jn hf (fun j => ∀  (h : HF) (H : Heap) (locs : List Loc) (ls : Array Slot), Hp g B s h H locs → lv_has ls 9 [] → j  h = some o → W p l e (rmn 3) s m args below meth c H locs 0 0 Q (F0 m 50 ls [])) ?_ (fun j50 hj50 hf => ?_)
        · intro  h H locs ls  hp hl hf
          refine z_bipush cx (by decide) dX12_product_50 ?_
          rw [hQ]; exact z_iret cx hp (by decide) dX12_product_52 hf
        refine z_if_eq cx rx4 (tgt := 50) dX12_product_38 (by decide) hf (fun _ hf => ?_) (fun _ hf => ?_)
        · exact hj50  h _ _ ls  hp (lv_sub hl [] rfl) hf
        · refine lv_aload_n cx.1 cx.2.1 dX12_product_41 rfl (lv_at hl 0 rfl) ?_
          refine z_gets cx hp (T := TX12) 12 6 (a0 + 3) rfl zin_12 (by decide) (by decide) ra0 rfl fl_X12_16 dX12_product_42 ?_
          refine lv_iload_n cx.1 cx.2.1 dX12_product_45 rfl (lv_at hl 2 rfl) ?_
          refine z_iald cx hp (zs_12_6 a0 (kt_lt ra0 (by decide)) ra0) ra2 dX12_product_46 hf (fun x5 rx5 hf => ?_)
          refine z_if_ne cx rx5 (tgt := 53) dX12_product_47 (by decide) hf (fun _ hf => ?_) (fun _ hf => ?_)
          · exact hj50  h _ _ ls  hp (lv_sub hl [] rfl) hf
          · refine lv_aload_n cx.1 cx.2.1 dX12_product_53 rfl (lv_at hl 0 rfl) ?_
            refine z_gets cx hp (T := TX12) 12 6 (a0 + 3) rfl zin_12 (by decide) (by decide) ra0 rfl fl_X12_16 dX12_product_54 ?_
            refine lv_iload_n cx.1 cx.2.1 dX12_product_57 rfl (lv_at hl 2 rfl) ?_
            refine z_iald cx hp (zs_12_6 a0 (kt_lt ra0 (by decide)) ra0) ra2 dX12_product_58 hf (fun x6 rx6 hf => ?_)
            refine lv_istore (lv' := [(4, .int (ii x6)), (0, .ref (B + a0)), (1, .int (ii a1)), (2, .int (ii a2)), (3, .int (ii a3))]) cx.1 cx.2.1 dX12_product_59 hl (by decide) rfl (fun ls hl => ?_)
            refine lv_aload_n cx.1 cx.2.1 dX12_product_61 rfl (lv_at hl 1 rfl) ?_
            refine z_gets cx hp (T := TX12) 12 6 (a0 + 3) rfl zin_12 (by decide) (by decide) ra0 rfl fl_X12_16 dX12_product_62 ?_
            refine lv_iload_n cx.1 cx.2.1 dX12_product_65 rfl (lv_at hl 2 rfl) ?_
            refine z_iald cx hp (zs_12_6 a0 (kt_lt ra0 (by decide)) ra0) ra1 dX12_product_66 hf (fun x7 rx7 hf => ?_)
            refine lv_iload cx.1 cx.2.1 dX12_product_67 (lv_at hl 0 rfl) ?_
            refine z_imul cx dX12_product_69 ?_
            refine z_let (rng_wr _) hf (fun x8 rx8 hf => ?_)
            refine lv_istore (lv' := [(5, .int (ii x8)), (4, .int (ii x6)), (0, .ref (B + a0)), (1, .int (ii a1)), (2, .int (ii a2)), (3, .int (ii a3))]) cx.1 cx.2.1 dX12_product_70 hl (by decide) rfl (fun ls hl => ?_)
            refine lv_aload_n cx.1 cx.2.1 dX12_product_72 rfl (lv_at hl 2 rfl) ?_
            refine lv_iload_n cx.1 cx.2.1 dX12_product_73 rfl (lv_at hl 3 rfl) ?_
            refine lv_iload_n cx.1 cx.2.1 dX12_product_74 rfl (lv_at hl 4 rfl) ?_
            refine z_ci cx hp (fun o' hx => zrunV (n := 3) (As := [.int (ii a1), .int (ii a2)]) (rest := []) cx hp (mX12_isOneSignature F l g B h a0 a1 a2 ra0 ra1 ra2 o' hx) 12 ra0 (by decide) rfl vw_X12_isOneSignature ml_X12_359 (by decide) rfl hl.1 rfl (Nat.le_of_ble_eq_true rfl) dX12_product_75) hf (fun r9 h H locs rr9 hp hf => ?_)
            refine z_jn hf (fun j => ∀  (h : HF) (H : Heap) (locs : List Loc) (ls : Array Slot), Hp g B s h H locs → lv_has ls 9 [] → j  h = some o → W p l e (rmn 3) s m args below meth c H locs 0 0 Q (F0 m 88 ls [])) ?_ (fun j88 hj88 hf => ?_)
            · intro  h H locs ls  hp hl hf
              refine z_bipush cx (by decide) dX12_product_88 ?_
              rw [hQ]; exact z_iret cx hp (by decide) dX12_product_90 hf
            refine z_if_eq cx rr9 (tgt := 88) dX12_product_78 (by decide) hf (fun _ hf => ?_) (fun _ hf => ?_)
            · exact hj88  h _ _ ls  hp (lv_sub hl [] rfl) hf
            · refine lv_iload cx.1 cx.2.1 dX12_product_81 (lv_at hl 0 rfl) ?_
              refine z_bipush cx (by decide) dX12_product_83 ?_
              refine z_icmp_le cx rx8 (by decide) (tgt := 91) dX12_product_85 (by decide) hf (fun _ hf => ?_) (fun _ hf => ?_)
              · exact hj88  h _ _ ls  hp (lv_sub hl [] rfl) hf
              · refine lv_aload_n cx.1 cx.2.1 dX12_product_91 rfl (lv_at hl 2 rfl) ?_
                refine lv_iload_n cx.1 cx.2.1 dX12_product_92 rfl (lv_at hl 3 rfl) ?_
                refine lv_iload cx.1 cx.2.1 dX12_product_93 (lv_at hl 0 rfl) ?_
                refine z_cv cx hp (fun o' hx => zrunV (n := 3) (As := [.int (ii a1), .int (ii x8)]) (rest := []) cx hp (mX12_like F l g B h a0 a1 x8 ra0 ra1 rx8 o' hx) 12 ra0 (by decide) rfl vw_X12_like ml_X12_301 (by decide) rfl hl.1 rfl (Nat.le_of_ble_eq_true rfl) dX12_product_95) hf (fun _ h H locs hp hf => ?_)
                refine z_iconst cx dX12_product_98 ?_
                refine lv_istore (lv' := [(6, .int (ii 0)), (5, .int (ii x8)), (4, .int (ii x6)), (0, .ref (B + a0)), (1, .int (ii a1)), (2, .int (ii a2)), (3, .int (ii a3))]) cx.1 cx.2.1 dX12_product_99 hl (by decide) rfl (fun ls hl => ?_)
                refine z_jn hf (fun j => ∀ (x214_5 : Int) (h : HF) (H : Heap) (locs : List Loc) (ls : Array Slot), rng x214_5 → Hp g B s h H locs → lv_has ls 9 [(0, .ref (B + a0)), (3, .int (ii a3)), (5, .int (ii x214_5))] → j x214_5 h = some o → W p l e (rmn 3) s m args below meth c H locs 0 0 Q (F0 m 214 ls [])) ?_ (fun j214 hj214 hf => ?_)
                · intro x214_5 h H locs ls rx214_5 hp hl hf
                  refine lv_aload_n cx.1 cx.2.1 dX12_product_214 rfl (lv_at hl 0 rfl) ?_
                  refine lv_iload_n cx.1 cx.2.1 dX12_product_215 rfl (lv_at hl 1 rfl) ?_
                  refine z_cv cx hp (fun o' hx => zrunV (n := 3) (As := [.int (ii a3)]) (rest := []) cx hp (mX12_keep F l g B h a0 a3 ra0 ra3 o' hx) 12 ra0 (by decide) rfl vw_X12_keep ml_X12_153 (by decide) rfl hl.1 rfl (Nat.le_of_ble_eq_true rfl) dX12_product_216) hf (fun _ h H locs hp hf => ?_)
                  refine lv_aload_n cx.1 cx.2.1 dX12_product_219 rfl (lv_at hl 0 rfl) ?_
                  refine z_bipush cx (by decide) dX12_product_220 ?_
                  refine lv_iload_n cx.1 cx.2.1 dX12_product_222 rfl (lv_at hl 1 rfl) ?_
                  refine z_cv cx hp (fun o' hx => zrunV (n := 3) (As := [.int (ii 8), .int (ii a3)]) (rest := []) cx hp (mX12_copy F l g B h a0 8 a3 ra0 (by decide) ra3 o' hx) 12 ra0 (by decide) rfl vw_X12_copy ml_X12_202 (by decide) rfl hl.1 rfl (Nat.le_of_ble_eq_true rfl) dX12_product_223) hf (fun _ h H locs hp hf => ?_)
                  refine lv_iload cx.1 cx.2.1 dX12_product_226 (lv_at hl 2 rfl) ?_
                  rw [hQ]; exact z_iret cx hp rx214_5 dX12_product_228 hf
                exact wX12_product_101 F cx a0 ra0 a1 ra1 a2 ra2 a3 ra3 x6 rx6 x8 rx8 j214 hj214 F 0 h _ _ ls (by decide) hp (lv_sub hl [3, 4, 5, 6, 2, 1, 0] rfl) hf
theorem dX12_gives_0 : decode cX12_gives 0 = .ok (.iload_n 0, 1) := by decide +kernel
theorem dX12_gives_1 : decode cX12_gives 1 = .ok (.istore_n 3, 1) := by decide +kernel
theorem dX12_gives_2 : decode cX12_gives 2 = .ok (.iload_n 1, 1) := by decide +kernel
theorem dX12_gives_3 : decode cX12_gives 3 = .ok (.iconst 1, 1) := by decide +kernel
theorem dX12_gives_4 : decode cX12_gives 4 = .ok (.isub, 1) := by decide +kernel
theorem dX12_gives_5 : decode cX12_gives 5 = .ok (.istore 4, 2) := by decide +kernel
theorem dX12_gives_7 : decode cX12_gives 7 = .ok (.iload 4, 2) := by decide +kernel
theorem dX12_gives_9 : decode cX12_gives 9 = .ok (.iload_n 2, 1) := by decide +kernel
theorem dX12_gives_10 : decode cX12_gives 10 = .ok (.if_icmp .le 14, 3) := by decide +kernel
theorem dX12_gives_13 : decode cX12_gives 13 = .ok (.iload_n 3, 1) := by decide +kernel
theorem dX12_gives_14 : decode cX12_gives 14 = .ok (.bipush 7, 2) := by decide +kernel
theorem dX12_gives_16 : decode cX12_gives 16 = .ok (.idiv, 1) := by decide +kernel
theorem dX12_gives_17 : decode cX12_gives 17 = .ok (.istore_n 3, 1) := by decide +kernel
theorem dX12_gives_18 : decode cX12_gives 18 = .ok (.iinc 4 (-1), 3) := by decide +kernel
theorem dX12_gives_21 : decode cX12_gives 21 = .ok (.goto (-14), 3) := by decide +kernel
theorem dX12_gives_24 : decode cX12_gives 24 = .ok (.iload_n 3, 1) := by decide +kernel
theorem dX12_gives_25 : decode cX12_gives 25 = .ok (.bipush 7, 2) := by decide +kernel
theorem dX12_gives_27 : decode cX12_gives 27 = .ok (.irem, 1) := by decide +kernel
theorem dX12_gives_28 : decode cX12_gives 28 = .ok (.ireturn, 1) := by decide +kernel
def LX12_gives_7 (F : Nat) (u2 : Int) (k24 : Int → HF → RO) : Nat → Int → Int → HF → RO
  | 0, _, _, _ => none
  | n + 1, v3, v4, h =>
    if u2 < v4 then (
      zdv 7 <|
      zlet (wdiv v3 7) fun x2 =>
      zlet (wr (v4 + (-1))) fun x3 =>
      LX12_gives_7 F u2 k24 n x2 x3 h
    ) else (
      k24 v3 h
    )
set_option maxHeartbeats 4000000 in
set_option maxRecDepth 100000 in
theorem wX12_gives_7 {p : Program} {l : Launch} {e : Env} {s : State} {m : MethodId} {args : Array Value} {below : List Frame} {meth : Method} {c : Code} {Q : State → Prop} {g : zG} {B : Nat} {o : Int × HF} (F : Nat) (cx : Cx p s m args meth c cX12_gives 5 RX12 (some .int) g B) (u2 : Int) (ru2 : rng u2) (k24 : Int → HF → RO) (hk24 : ∀ (x3 : Int) (h : HF) (H : Heap) (locs : List Loc) (ls : Array Slot), rng x3 → Hp g B s h H locs → lv_has ls 5 [(3, .int (ii x3))] → k24 x3 h = some o → W p l e (rmn 0) s m args below meth c H locs 0 0 Q (F0 m 24 ls [])) : ∀ (n : Nat) (v3 : Int) (v4 : Int) (h : HF) (H : Heap) (locs : List Loc) (ls : Array Slot), rng v3 → rng v4 → Hp g B s h H locs → lv_has ls 5 [(2, .int (ii u2)), (3, .int (ii v3)), (4, .int (ii v4))] → LX12_gives_7 F u2 k24 n v3 v4 h = some o → W p l e (rmn 0) s m args below meth c H locs 0 0 Q (F0 m 7 ls []) := by
  intro n
  induction n with
  | zero =>
    intro v3 v4 h H locs ls rv3 rv4 hp hl hf
    cases hf
  | succ n ih =>
    intro v3 v4 h H locs ls rv3 rv4 hp hl hf
    rw [LX12_gives_7] at hf
    refine lv_iload cx.1 cx.2.1 dX12_gives_7 (lv_at hl 2 rfl) ?_
    refine lv_iload_n cx.1 cx.2.1 dX12_gives_9 rfl (lv_at hl 0 rfl) ?_
    refine z_icmp_le cx rv4 ru2 (tgt := 24) dX12_gives_10 (by decide) hf (fun _ hf => ?_) (fun _ hf => ?_)
    · refine lv_iload_n cx.1 cx.2.1 dX12_gives_13 rfl (lv_at hl 1 rfl) ?_
      refine z_bipush cx (by decide) dX12_gives_14 ?_
      refine z_idiv cx rv3 (by decide) dX12_gives_16 hf (fun hf => ?_)
      refine z_let (rng_div _ _) hf (fun x2 rx2 hf => ?_)
      refine lv_istore_n (lv' := [(3, .int (ii x2)), (2, .int (ii u2)), (4, .int (ii v4))]) cx.1 cx.2.1 dX12_gives_17 rfl hl (by decide) rfl (fun ls hl => ?_)
      refine z_iinc cx (fun x3 => [(4, .int (ii x3)), (3, .int (ii x2)), (2, .int (ii u2))]) dX12_gives_18 hl (k := 2) rfl (by decide) (fun _ => rfl) hf (fun x3 rx3 hf ls hl => ?_)
      refine lv_goto (tgt := 7) cx.1 cx.2.1 dX12_gives_21 (by decide) ?_
      exact ih x2 x3 h _ _ ls rx2 rx3 hp (lv_sub hl [2, 1, 0] rfl) hf
    · exact hk24 v3 h _ _ ls rv3 hp (lv_sub hl [1] rfl) hf
def fX12_gives (F : Nat) (a0 : Int) (a1 : Int) (a2 : Int) (h : HF) : RO :=
  zlet (wr (a1 - 1)) fun x1 =>
  zjn (fun (x24_3 : Int) (h : HF) => (
    zdv 7 <|
    some (wrem x24_3 7, h)
  )) fun j24 =>
  LX12_gives_7 F a2 j24 F a0 x1 h
set_option maxHeartbeats 4000000 in
set_option maxRecDepth 100000 in
theorem mX12_gives (F : Nat) (l : Launch) (g : zG) (B : Nat) (h : HF) (a0 : Int) (a1 : Int) (a2 : Int) (ra0 : rng a0) (ra1 : rng a1) (ra2 : rng a2) : CTi l g B yX12_gives cX12_gives 5 (some .int) 0 [.int (ii a0), .int (ii a1), .int (ii a2)] h (fX12_gives F a0 a1 a2 h) := by
  refine z_enterI (by decide) rfl (Nat.le_of_ble_eq_true rfl) ?_
  intro p e s m args below meth c ls o Q cx hp hl hf hQ
  have hl : lv_has ls 5 [(0, .int (ii a0)), (1, .int (ii a1)), (2, .int (ii a2))] := hl
  unfold fX12_gives at hf
  refine lv_iload_n cx.1 cx.2.1 dX12_gives_0 rfl (lv_at hl 0 rfl) ?_
  refine lv_istore_n (lv' := [(3, .int (ii a0)), (0, .int (ii a0)), (1, .int (ii a1)), (2, .int (ii a2))]) cx.1 cx.2.1 dX12_gives_1 rfl hl (by decide) rfl (fun ls hl => ?_)
  refine lv_iload_n cx.1 cx.2.1 dX12_gives_2 rfl (lv_at hl 2 rfl) ?_
  refine z_iconst cx dX12_gives_3 ?_
  refine z_isub cx dX12_gives_4 ?_
  refine z_let (rng_wr _) hf (fun x1 rx1 hf => ?_)
  refine lv_istore (lv' := [(4, .int (ii x1)), (3, .int (ii a0)), (0, .int (ii a0)), (1, .int (ii a1)), (2, .int (ii a2))]) cx.1 cx.2.1 dX12_gives_5 hl (by decide) rfl (fun ls hl => ?_)
  refine z_jn hf (fun j => ∀ (x24_3 : Int) (h : HF) (H : Heap) (locs : List Loc) (ls : Array Slot), rng x24_3 → Hp g B s h H locs → lv_has ls 5 [(3, .int (ii x24_3))] → j x24_3 h = some o → W p l e (rmn 0) s m args below meth c H locs 0 0 Q (F0 m 24 ls [])) ?_ (fun j24 hj24 hf => ?_)
  · intro x24_3 h H locs ls rx24_3 hp hl hf
    refine lv_iload_n cx.1 cx.2.1 dX12_gives_24 rfl (lv_at hl 0 rfl) ?_
    refine z_bipush cx (by decide) dX12_gives_25 ?_
    refine z_irem cx rx24_3 (by decide) dX12_gives_27 hf (fun hf => ?_)
    rw [hQ]; exact z_iret cx hp (rng_rem _ _) dX12_gives_28 hf
  exact wX12_gives_7 F cx a2 ra2 j24 hj24 F a0 x1 h _ _ ls ra0 rx1 hp (lv_sub hl [4, 1, 0] rfl) hf
theorem dX12_addFunction_0 : decode cX12_addFunction 0 = .ok (.aload_n 0, 1) := by decide +kernel
theorem dX12_addFunction_1 : decode cX12_addFunction 1 = .ok (.aload_n 0, 1) := by decide +kernel
theorem dX12_addFunction_2 : decode cX12_addFunction 2 = .ok (.getfield 112, 3) := by decide +kernel
theorem dX12_addFunction_5 : decode cX12_addFunction 5 = .ok (.iload_n 1, 1) := by decide +kernel
theorem dX12_addFunction_6 : decode cX12_addFunction 6 = .ok (.invokevirtual 329, 3) := by decide +kernel
theorem dX12_addFunction_9 : decode cX12_addFunction 9 = .ok (.istore_n 2, 1) := by decide +kernel
theorem dX12_addFunction_10 : decode cX12_addFunction 10 = .ok (.iconst 0, 1) := by decide +kernel
theorem dX12_addFunction_11 : decode cX12_addFunction 11 = .ok (.istore_n 3, 1) := by decide +kernel
theorem dX12_addFunction_12 : decode cX12_addFunction 12 = .ok (.iload_n 3, 1) := by decide +kernel
theorem dX12_addFunction_13 : decode cX12_addFunction 13 = .ok (.aload_n 0, 1) := by decide +kernel
theorem dX12_addFunction_14 : decode cX12_addFunction 14 = .ok (.getfield 394, 3) := by decide +kernel
theorem dX12_addFunction_17 : decode cX12_addFunction 17 = .ok (.if_icmp .ge 21, 3) := by decide +kernel
theorem dX12_addFunction_20 : decode cX12_addFunction 20 = .ok (.aload_n 0, 1) := by decide +kernel
theorem dX12_addFunction_21 : decode cX12_addFunction 21 = .ok (.getfield 109, 3) := by decide +kernel
theorem dX12_addFunction_24 : decode cX12_addFunction 24 = .ok (.iload_n 3, 1) := by decide +kernel
theorem dX12_addFunction_25 : decode cX12_addFunction 25 = .ok (.iaload, 1) := by decide +kernel
theorem dX12_addFunction_26 : decode cX12_addFunction 26 = .ok (.iload_n 2, 1) := by decide +kernel
theorem dX12_addFunction_27 : decode cX12_addFunction 27 = .ok (.if_icmp .ne 5, 3) := by decide +kernel
theorem dX12_addFunction_30 : decode cX12_addFunction 30 = .ok (.iconst 1, 1) := by decide +kernel
theorem dX12_addFunction_31 : decode cX12_addFunction 31 = .ok (.ireturn, 1) := by decide +kernel
theorem dX12_addFunction_32 : decode cX12_addFunction 32 = .ok (.iinc 3 1, 3) := by decide +kernel
theorem dX12_addFunction_35 : decode cX12_addFunction 35 = .ok (.goto (-23), 3) := by decide +kernel
theorem dX12_addFunction_38 : decode cX12_addFunction 38 = .ok (.aload_n 0, 1) := by decide +kernel
theorem dX12_addFunction_39 : decode cX12_addFunction 39 = .ok (.getfield 394, 3) := by decide +kernel
theorem dX12_addFunction_42 : decode cX12_addFunction 42 = .ok (.sipush 300, 3) := by decide +kernel
theorem dX12_addFunction_45 : decode cX12_addFunction 45 = .ok (.if_icmp .ne 5, 3) := by decide +kernel
theorem dX12_addFunction_48 : decode cX12_addFunction 48 = .ok (.iconst 0, 1) := by decide +kernel
theorem dX12_addFunction_49 : decode cX12_addFunction 49 = .ok (.ireturn, 1) := by decide +kernel
theorem dX12_addFunction_50 : decode cX12_addFunction 50 = .ok (.aload_n 0, 1) := by decide +kernel
theorem dX12_addFunction_51 : decode cX12_addFunction 51 = .ok (.getfield 109, 3) := by decide +kernel
theorem dX12_addFunction_54 : decode cX12_addFunction 54 = .ok (.aload_n 0, 1) := by decide +kernel
theorem dX12_addFunction_55 : decode cX12_addFunction 55 = .ok (.getfield 394, 3) := by decide +kernel
theorem dX12_addFunction_58 : decode cX12_addFunction 58 = .ok (.iload_n 2, 1) := by decide +kernel
theorem dX12_addFunction_59 : decode cX12_addFunction 59 = .ok (.iastore, 1) := by decide +kernel
theorem dX12_addFunction_60 : decode cX12_addFunction 60 = .ok (.aload_n 0, 1) := by decide +kernel
theorem dX12_addFunction_61 : decode cX12_addFunction 61 = .ok (.dup, 1) := by decide +kernel
theorem dX12_addFunction_62 : decode cX12_addFunction 62 = .ok (.getfield 394, 3) := by decide +kernel
theorem dX12_addFunction_65 : decode cX12_addFunction 65 = .ok (.iconst 1, 1) := by decide +kernel
theorem dX12_addFunction_66 : decode cX12_addFunction 66 = .ok (.iadd, 1) := by decide +kernel
theorem dX12_addFunction_67 : decode cX12_addFunction 67 = .ok (.putfield 394, 3) := by decide +kernel
theorem dX12_addFunction_70 : decode cX12_addFunction 70 = .ok (.iconst 1, 1) := by decide +kernel
theorem dX12_addFunction_71 : decode cX12_addFunction 71 = .ok (.ireturn, 1) := by decide +kernel
def LX12_addFunction_12 (F : Nat) (u0 : Nat) (u2 : Int) (k38 : Int → HF → RO) (k30 : HF → RO) : Nat → Int → HF → RO
  | 0, _, _ => none
  | n + 1, v3, h =>
    zgf h u0 53 fun x5 =>
    if v3 < x5 then (
      zrd h (u0 + 34) v3 fun x6 =>
      if x6 = u2 then (
        k30  h
      ) else (
        zlet (wr (v3 + 1)) fun x7 =>
        LX12_addFunction_12 F u0 u2 k38 k30 n x7 h
      )
    ) else (
      k38 u2 h
    )
set_option maxHeartbeats 4000000 in
set_option maxRecDepth 100000 in
theorem wX12_addFunction_12 {p : Program} {l : Launch} {e : Env} {s : State} {m : MethodId} {args : Array Value} {below : List Frame} {meth : Method} {c : Code} {Q : State → Prop} {g : zG} {B : Nat} {o : Int × HF} (F : Nat) (cx : Cx p s m args meth c cX12_addFunction 4 RX12 (some .boolean) g B) (u0 : Nat) (ru0 : kt u0 = 15) (u2 : Int) (ru2 : rng u2) (k38 : Int → HF → RO) (hk38 : ∀ (x2 : Int) (h : HF) (H : Heap) (locs : List Loc) (ls : Array Slot), rng x2 → Hp g B s h H locs → lv_has ls 4 [(0, .ref (B + u0)), (2, .int (ii x2))] → k38 x2 h = some o → W p l e (rmn 1) s m args below meth c H locs 0 0 Q (F0 m 38 ls [])) (k30 : HF → RO) (hk30 : ∀  (h : HF) (H : Heap) (locs : List Loc) (ls : Array Slot), Hp g B s h H locs → lv_has ls 4 [] → k30  h = some o → W p l e (rmn 1) s m args below meth c H locs 0 0 Q (F0 m 30 ls [])) : ∀ (n : Nat) (v3 : Int) (h : HF) (H : Heap) (locs : List Loc) (ls : Array Slot), rng v3 → Hp g B s h H locs → lv_has ls 4 [(0, .ref (B + u0)), (2, .int (ii u2)), (3, .int (ii v3))] → LX12_addFunction_12 F u0 u2 k38 k30 n v3 h = some o → W p l e (rmn 1) s m args below meth c H locs 0 0 Q (F0 m 12 ls []) := by
  intro n
  induction n with
  | zero =>
    intro v3 h H locs ls rv3 hp hl hf
    cases hf
  | succ n ih =>
    intro v3 h H locs ls rv3 hp hl hf
    rw [LX12_addFunction_12] at hf
    refine lv_iload_n cx.1 cx.2.1 dX12_addFunction_12 rfl (lv_at hl 2 rfl) ?_
    refine lv_aload_n cx.1 cx.2.1 dX12_addFunction_13 rfl (lv_at hl 0 rfl) ?_
    refine z_geti cx hp (T := TX12) 12 53 rfl zin_12 (by decide) (by decide) ru0 rfl fl_X12_394 dX12_addFunction_14 hf (fun x5 rx5 hf => ?_)
    refine z_icmp_ge cx rv3 rx5 (tgt := 38) dX12_addFunction_17 (by decide) hf (fun _ hf => ?_) (fun _ hf => ?_)
    · refine lv_aload_n cx.1 cx.2.1 dX12_addFunction_20 rfl (lv_at hl 0 rfl) ?_
      refine z_gets cx hp (T := TX12) 12 52 (u0 + 34) rfl zin_12 (by decide) (by decide) ru0 rfl fl_X12_109 dX12_addFunction_21 ?_
      refine lv_iload_n cx.1 cx.2.1 dX12_addFunction_24 rfl (lv_at hl 2 rfl) ?_
      refine z_iald cx hp (zs_12_52 u0 (kt_lt ru0 (by decide)) ru0) rv3 dX12_addFunction_25 hf (fun x6 rx6 hf => ?_)
      refine lv_iload_n cx.1 cx.2.1 dX12_addFunction_26 rfl (lv_at hl 1 rfl) ?_
      refine z_icmp_ne cx rx6 ru2 (tgt := 32) dX12_addFunction_27 (by decide) hf (fun _ hf => ?_) (fun _ hf => ?_)
      · exact hk30  h _ _ ls  hp (lv_sub hl [] rfl) hf
      · refine z_iinc cx (fun x7 => [(3, .int (ii x7)), (0, .ref (B + u0)), (2, .int (ii u2))]) dX12_addFunction_32 hl (k := 2) rfl (by decide) (fun _ => rfl) hf (fun x7 rx7 hf ls hl => ?_)
        refine lv_goto (tgt := 12) cx.1 cx.2.1 dX12_addFunction_35 (by decide) ?_
        exact ih x7 h _ _ ls rx7 hp (lv_sub hl [1, 2, 0] rfl) hf
    · exact hk38 u2 h _ _ ls ru2 hp (lv_sub hl [0, 1] rfl) hf
def fX12_addFunction (F : Nat) (a0 : Nat) (a1 : Int) (h : HF) : RO :=
  zbd (fX12_told F a0 (a0 + 35) a1 h) fun r1 h =>
  zjn (fun (x38_2 : Int) (h : HF) => (
    zgf h a0 53 fun x2 =>
    if x2 = 300 then (
      zrz 0 h
    ) else (
      zgf h a0 53 fun x3 =>
      zwr h (a0 + 34) x3 x38_2 fun h =>
      zgf h a0 53 fun x4 =>
      zpf h a0 53 (wr (x4 + 1)) fun h =>
      zrz 1 h
    )
  )) fun j38 =>
  zjn (fun  (h : HF) => (
    zrz 1 h
  )) fun j30 =>
  LX12_addFunction_12 F a0 r1 j38 j30 F 0 h
set_option maxHeartbeats 4000000 in
set_option maxRecDepth 100000 in
theorem mX12_addFunction (F : Nat) (l : Launch) (g : zG) (B : Nat) (h : HF) (a0 : Nat) (a1 : Int) (ra0 : kt a0 = 15) (ra1 : rng a1) : CTi l g B yX12_addFunction cX12_addFunction 4 (some .boolean) 1 [.ref (B + a0), .int (ii a1)] h (fX12_addFunction F a0 a1 h) := by
  refine z_enterI (by decide) rfl (Nat.le_of_ble_eq_true rfl) ?_
  intro p e s m args below meth c ls o Q cx hp hl hf hQ
  have hl : lv_has ls 4 [(0, .ref (B + a0)), (1, .int (ii a1))] := hl
  unfold fX12_addFunction at hf
  refine lv_aload_n cx.1 cx.2.1 dX12_addFunction_0 rfl (lv_at hl 0 rfl) ?_
  refine lv_aload_n cx.1 cx.2.1 dX12_addFunction_1 rfl (lv_at hl 0 rfl) ?_
  refine z_gets cx hp (T := TX12) 12 54 (a0 + 35) rfl zin_12 (by decide) (by decide) ra0 rfl fl_X12_112 dX12_addFunction_2 ?_
  refine lv_iload_n cx.1 cx.2.1 dX12_addFunction_5 rfl (lv_at hl 1 rfl) ?_
  refine z_ci cx hp (fun o' hx => zrunV (n := 1) (As := [.ref (B + (a0 + 35)), .int (ii a1)]) (rest := []) cx hp (mX12_told F l g B h a0 (a0 + 35) a1 ra0 (zs_12_54 a0 (kt_lt ra0 (by decide)) ra0) ra1 o' hx) 12 ra0 (by decide) rfl vw_X12_told ml_X12_329 (by decide) rfl hl.1 rfl (Nat.le_of_ble_eq_true rfl) dX12_addFunction_6) hf (fun r1 h H locs rr1 hp hf => ?_)
  refine lv_istore_n (lv' := [(2, .int (ii r1)), (0, .ref (B + a0)), (1, .int (ii a1))]) cx.1 cx.2.1 dX12_addFunction_9 rfl hl (by decide) rfl (fun ls hl => ?_)
  refine z_iconst cx dX12_addFunction_10 ?_
  refine lv_istore_n (lv' := [(3, .int (ii 0)), (2, .int (ii r1)), (0, .ref (B + a0)), (1, .int (ii a1))]) cx.1 cx.2.1 dX12_addFunction_11 rfl hl (by decide) rfl (fun ls hl => ?_)
  refine z_jn hf (fun j => ∀ (x38_2 : Int) (h : HF) (H : Heap) (locs : List Loc) (ls : Array Slot), rng x38_2 → Hp g B s h H locs → lv_has ls 4 [(0, .ref (B + a0)), (2, .int (ii x38_2))] → j x38_2 h = some o → W p l e (rmn 1) s m args below meth c H locs 0 0 Q (F0 m 38 ls [])) ?_ (fun j38 hj38 hf => ?_)
  · intro x38_2 h H locs ls rx38_2 hp hl hf
    refine lv_aload_n cx.1 cx.2.1 dX12_addFunction_38 rfl (lv_at hl 0 rfl) ?_
    refine z_geti cx hp (T := TX12) 12 53 rfl zin_12 (by decide) (by decide) ra0 rfl fl_X12_394 dX12_addFunction_39 hf (fun x2 rx2 hf => ?_)
    refine z_sipush cx (by decide) dX12_addFunction_42 ?_
    refine z_icmp_ne cx rx2 (by decide) (tgt := 50) dX12_addFunction_45 (by decide) hf (fun _ hf => ?_) (fun _ hf => ?_)
    · refine z_iconst cx dX12_addFunction_48 ?_
      rw [hQ]; exact z_zret cx hp dX12_addFunction_49 hf
    · refine lv_aload_n cx.1 cx.2.1 dX12_addFunction_50 rfl (lv_at hl 0 rfl) ?_
      refine z_gets cx hp (T := TX12) 12 52 (a0 + 34) rfl zin_12 (by decide) (by decide) ra0 rfl fl_X12_109 dX12_addFunction_51 ?_
      refine lv_aload_n cx.1 cx.2.1 dX12_addFunction_54 rfl (lv_at hl 0 rfl) ?_
      refine z_geti cx hp (T := TX12) 12 53 rfl zin_12 (by decide) (by decide) ra0 rfl fl_X12_394 dX12_addFunction_55 hf (fun x3 rx3 hf => ?_)
      refine lv_iload_n cx.1 cx.2.1 dX12_addFunction_58 rfl (lv_at hl 1 rfl) ?_
      refine z_iast cx hp (zs_12_52 a0 (kt_lt ra0 (by decide)) ra0) rx3 rx38_2 dX12_addFunction_59 hf (fun h H locs hp hf => ?_)
      refine lv_aload_n cx.1 cx.2.1 dX12_addFunction_60 rfl (lv_at hl 0 rfl) ?_
      refine lv_dup cx.1 cx.2.1 dX12_addFunction_61 rfl ?_
      refine z_geti cx hp (T := TX12) 12 53 rfl zin_12 (by decide) (by decide) ra0 rfl fl_X12_394 dX12_addFunction_62 hf (fun x4 rx4 hf => ?_)
      refine z_iconst cx dX12_addFunction_65 ?_
      refine z_iadd cx dX12_addFunction_66 ?_
      refine z_puti cx hp (T := TX12) tyX12 tyX12_ok nmX12 12 53 (rng_wr _) rfl zin_12 (by decide) (by decide) ra0 rfl rfl rfl fl_X12_394 dX12_addFunction_67 hf (fun h H locs hp hf => ?_)
      refine z_iconst cx dX12_addFunction_70 ?_
      rw [hQ]; exact z_zret cx hp dX12_addFunction_71 hf
  refine z_jn hf (fun j => ∀  (h : HF) (H : Heap) (locs : List Loc) (ls : Array Slot), Hp g B s h H locs → lv_has ls 4 [] → j  h = some o → W p l e (rmn 1) s m args below meth c H locs 0 0 Q (F0 m 30 ls [])) ?_ (fun j30 hj30 hf => ?_)
  · intro  h H locs ls  hp hl hf
    refine z_iconst cx dX12_addFunction_30 ?_
    rw [hQ]; exact z_zret cx hp dX12_addFunction_31 hf
  exact wX12_addFunction_12 F cx a0 ra0 r1 rr1 j38 hj38 j30 hj30 F 0 h _ _ ls (by decide) hp (lv_sub hl [2, 1, 0] rfl) hf
theorem dX12_work_0 : decode cX12_work 0 = .ok (.aload_n 0, 1) := by decide +kernel
theorem dX12_work_1 : decode cX12_work 1 = .ok (.getfield 16, 3) := by decide +kernel
theorem dX12_work_4 : decode cX12_work 4 = .ok (.iload_n 1, 1) := by decide +kernel
theorem dX12_work_5 : decode cX12_work 5 = .ok (.iaload, 1) := by decide +kernel
theorem dX12_work_6 : decode cX12_work 6 = .ok (.istore 5, 2) := by decide +kernel
theorem dX12_work_8 : decode cX12_work 8 = .ok (.iconst 0, 1) := by decide +kernel
theorem dX12_work_9 : decode cX12_work 9 = .ok (.istore 6, 2) := by decide +kernel
theorem dX12_work_11 : decode cX12_work 11 = .ok (.iload 6, 2) := by decide +kernel
theorem dX12_work_13 : decode cX12_work 13 = .ok (.iload 5, 2) := by decide +kernel
theorem dX12_work_15 : decode cX12_work 15 = .ok (.if_icmp .ge 39, 3) := by decide +kernel
theorem dX12_work_18 : decode cX12_work 18 = .ok (.aload_n 0, 1) := by decide +kernel
theorem dX12_work_19 : decode cX12_work 19 = .ok (.getfield 112, 3) := by decide +kernel
theorem dX12_work_22 : decode cX12_work 22 = .ok (.iload 6, 2) := by decide +kernel
theorem dX12_work_24 : decode cX12_work 24 = .ok (.aload_n 0, 1) := by decide +kernel
theorem dX12_work_25 : decode cX12_work 25 = .ok (.iload_n 1, 1) := by decide +kernel
theorem dX12_work_26 : decode cX12_work 26 = .ok (.iload_n 2, 1) := by decide +kernel
theorem dX12_work_27 : decode cX12_work 27 = .ok (.iload_n 3, 1) := by decide +kernel
theorem dX12_work_28 : decode cX12_work 28 = .ok (.iload 5, 2) := by decide +kernel
theorem dX12_work_30 : decode cX12_work 30 = .ok (.iload 6, 2) := by decide +kernel
theorem dX12_work_32 : decode cX12_work 32 = .ok (.invokestatic 397, 3) := by decide +kernel
theorem dX12_work_35 : decode cX12_work 35 = .ok (.iload 4, 2) := by decide +kernel
theorem dX12_work_37 : decode cX12_work 37 = .ok (.iload 5, 2) := by decide +kernel
theorem dX12_work_39 : decode cX12_work 39 = .ok (.iload 6, 2) := by decide +kernel
theorem dX12_work_41 : decode cX12_work 41 = .ok (.invokestatic 397, 3) := by decide +kernel
theorem dX12_work_44 : decode cX12_work 44 = .ok (.invokevirtual 178, 3) := by decide +kernel
theorem dX12_work_47 : decode cX12_work 47 = .ok (.iastore, 1) := by decide +kernel
theorem dX12_work_48 : decode cX12_work 48 = .ok (.iinc 6 1, 3) := by decide +kernel
theorem dX12_work_51 : decode cX12_work 51 = .ok (.goto (-40), 3) := by decide +kernel
theorem dX12_work_54 : decode cX12_work 54 = .ok (.aload_n 0, 1) := by decide +kernel
theorem dX12_work_55 : decode cX12_work 55 = .ok (.iload 5, 2) := by decide +kernel
theorem dX12_work_57 : decode cX12_work 57 = .ok (.invokevirtual 400, 3) := by decide +kernel
theorem dX12_work_60 : decode cX12_work 60 = .ok (.ireturn, 1) := by decide +kernel
def LX12_work_11 (F : Nat) (u0 : Nat) (u1 : Int) (u2 : Int) (u3 : Int) (u4 : Int) (u5 : Int) (k54 : Int → HF → RO) : Nat → Int → HF → RO
  | 0, _, _ => none
  | n + 1, v6, h =>
    if v6 < u5 then (
      zbd (fX12_gives F u3 u5 v6 h) fun r3 h =>
      zbd (fX12_gives F u4 u5 v6 h) fun r4 h =>
      zbd (fX12_value F u0 u1 u2 r3 r4 h) fun r5 h =>
      zwr h (u0 + 35) v6 r5 fun h =>
      zlet (wr (v6 + 1)) fun x6 =>
      LX12_work_11 F u0 u1 u2 u3 u4 u5 k54 n x6 h
    ) else (
      k54 u5 h
    )
set_option maxHeartbeats 4000000 in
set_option maxRecDepth 100000 in
theorem wX12_work_11 {p : Program} {l : Launch} {e : Env} {s : State} {m : MethodId} {args : Array Value} {below : List Frame} {meth : Method} {c : Code} {Q : State → Prop} {g : zG} {B : Nat} {o : Int × HF} (F : Nat) (cx : Cx p s m args meth c cX12_work 7 RX12 (some .boolean) g B) (u0 : Nat) (ru0 : kt u0 = 15) (u1 : Int) (ru1 : rng u1) (u2 : Int) (ru2 : rng u2) (u3 : Int) (ru3 : rng u3) (u4 : Int) (ru4 : rng u4) (u5 : Int) (ru5 : rng u5) (k54 : Int → HF → RO) (hk54 : ∀ (x5 : Int) (h : HF) (H : Heap) (locs : List Loc) (ls : Array Slot), rng x5 → Hp g B s h H locs → lv_has ls 7 [(0, .ref (B + u0)), (5, .int (ii x5))] → k54 x5 h = some o → W p l e (rmn 3) s m args below meth c H locs 0 0 Q (F0 m 54 ls [])) : ∀ (n : Nat) (v6 : Int) (h : HF) (H : Heap) (locs : List Loc) (ls : Array Slot), rng v6 → Hp g B s h H locs → lv_has ls 7 [(0, .ref (B + u0)), (1, .int (ii u1)), (2, .int (ii u2)), (3, .int (ii u3)), (4, .int (ii u4)), (5, .int (ii u5)), (6, .int (ii v6))] → LX12_work_11 F u0 u1 u2 u3 u4 u5 k54 n v6 h = some o → W p l e (rmn 3) s m args below meth c H locs 0 0 Q (F0 m 11 ls []) := by
  intro n
  induction n with
  | zero =>
    intro v6 h H locs ls rv6 hp hl hf
    cases hf
  | succ n ih =>
    intro v6 h H locs ls rv6 hp hl hf
    rw [LX12_work_11] at hf
    refine lv_iload cx.1 cx.2.1 dX12_work_11 (lv_at hl 6 rfl) ?_
    refine lv_iload cx.1 cx.2.1 dX12_work_13 (lv_at hl 5 rfl) ?_
    refine z_icmp_ge cx rv6 ru5 (tgt := 54) dX12_work_15 (by decide) hf (fun _ hf => ?_) (fun _ hf => ?_)
    · refine lv_aload_n cx.1 cx.2.1 dX12_work_18 rfl (lv_at hl 0 rfl) ?_
      refine z_gets cx hp (T := TX12) 12 54 (u0 + 35) rfl zin_12 (by decide) (by decide) ru0 rfl fl_X12_112 dX12_work_19 ?_
      refine lv_iload cx.1 cx.2.1 dX12_work_22 (lv_at hl 6 rfl) ?_
      refine lv_aload_n cx.1 cx.2.1 dX12_work_24 rfl (lv_at hl 0 rfl) ?_
      refine lv_iload_n cx.1 cx.2.1 dX12_work_25 rfl (lv_at hl 1 rfl) ?_
      refine lv_iload_n cx.1 cx.2.1 dX12_work_26 rfl (lv_at hl 2 rfl) ?_
      refine lv_iload_n cx.1 cx.2.1 dX12_work_27 rfl (lv_at hl 3 rfl) ?_
      refine lv_iload cx.1 cx.2.1 dX12_work_28 (lv_at hl 5 rfl) ?_
      refine lv_iload cx.1 cx.2.1 dX12_work_30 (lv_at hl 6 rfl) ?_
      refine z_ci cx hp (fun o' hx => zrunS (n := 3) (As := [.int (ii u3), .int (ii u5), .int (ii v6)]) (rest := [.int (ii u2), .int (ii u1), .ref (B + u0), .int (ii v6), .ref (B + (u0 + 35))]) cx hp (mX12_gives F l g B h u3 u5 v6 ru3 ru5 rv6 o' hx) sw_X12_gives ml_X12_397 (by decide) rfl hl.1 rfl (Nat.le_of_ble_eq_true rfl) dX12_work_32) hf (fun r3 h H locs rr3 hp hf => ?_)
      refine lv_iload cx.1 cx.2.1 dX12_work_35 (lv_at hl 4 rfl) ?_
      refine lv_iload cx.1 cx.2.1 dX12_work_37 (lv_at hl 5 rfl) ?_
      refine lv_iload cx.1 cx.2.1 dX12_work_39 (lv_at hl 6 rfl) ?_
      refine z_ci cx hp (fun o' hx => zrunS (n := 3) (As := [.int (ii u4), .int (ii u5), .int (ii v6)]) (rest := [.int (ii r3), .int (ii u2), .int (ii u1), .ref (B + u0), .int (ii v6), .ref (B + (u0 + 35))]) cx hp (mX12_gives F l g B h u4 u5 v6 ru4 ru5 rv6 o' hx) sw_X12_gives ml_X12_397 (by decide) rfl hl.1 rfl (Nat.le_of_ble_eq_true rfl) dX12_work_41) hf (fun r4 h H locs rr4 hp hf => ?_)
      refine z_ci cx hp (fun o' hx => zrunV (n := 3) (As := [.int (ii u1), .int (ii u2), .int (ii r3), .int (ii r4)]) (rest := [.int (ii v6), .ref (B + (u0 + 35))]) cx hp (mX12_value F l g B h u0 u1 u2 r3 r4 ru0 ru1 ru2 rr3 rr4 o' hx) 12 ru0 (by decide) rfl vw_X12_value ml_X12_178 (by decide) rfl hl.1 rfl (Nat.le_of_ble_eq_true rfl) dX12_work_44) hf (fun r5 h H locs rr5 hp hf => ?_)
      refine z_iast cx hp (zs_12_54 u0 (kt_lt ru0 (by decide)) ru0) rv6 rr5 dX12_work_47 hf (fun h H locs hp hf => ?_)
      refine z_iinc cx (fun x6 => [(6, .int (ii x6)), (0, .ref (B + u0)), (1, .int (ii u1)), (2, .int (ii u2)), (3, .int (ii u3)), (4, .int (ii u4)), (5, .int (ii u5))]) dX12_work_48 hl (k := 6) rfl (by decide) (fun _ => rfl) hf (fun x6 rx6 hf ls hl => ?_)
      refine lv_goto (tgt := 11) cx.1 cx.2.1 dX12_work_51 (by decide) ?_
      exact ih x6 h _ _ ls rx6 hp (lv_sub hl [1, 2, 3, 4, 5, 6, 0] rfl) hf
    · exact hk54 u5 h _ _ ls ru5 hp (lv_sub hl [0, 5] rfl) hf
def fX12_work (F : Nat) (a0 : Nat) (a1 : Int) (a2 : Int) (a3 : Int) (a4 : Int) (h : HF) : RO :=
  zrd h (a0 + 3) a1 fun x1 =>
  zjn (fun (x54_5 : Int) (h : HF) => (
    zbd (fX12_addFunction F a0 x54_5 h) fun r2 h =>
    zrz r2 h
  )) fun j54 =>
  LX12_work_11 F a0 a1 a2 a3 a4 x1 j54 F 0 h
set_option maxHeartbeats 4000000 in
set_option maxRecDepth 100000 in
theorem mX12_work (F : Nat) (l : Launch) (g : zG) (B : Nat) (h : HF) (a0 : Nat) (a1 : Int) (a2 : Int) (a3 : Int) (a4 : Int) (ra0 : kt a0 = 15) (ra1 : rng a1) (ra2 : rng a2) (ra3 : rng a3) (ra4 : rng a4) : CTi l g B yX12_work cX12_work 7 (some .boolean) 3 [.ref (B + a0), .int (ii a1), .int (ii a2), .int (ii a3), .int (ii a4)] h (fX12_work F a0 a1 a2 a3 a4 h) := by
  refine z_enterI (by decide) rfl (Nat.le_of_ble_eq_true rfl) ?_
  intro p e s m args below meth c ls o Q cx hp hl hf hQ
  have hl : lv_has ls 7 [(0, .ref (B + a0)), (1, .int (ii a1)), (2, .int (ii a2)), (3, .int (ii a3)), (4, .int (ii a4))] := hl
  unfold fX12_work at hf
  refine lv_aload_n cx.1 cx.2.1 dX12_work_0 rfl (lv_at hl 0 rfl) ?_
  refine z_gets cx hp (T := TX12) 12 6 (a0 + 3) rfl zin_12 (by decide) (by decide) ra0 rfl fl_X12_16 dX12_work_1 ?_
  refine lv_iload_n cx.1 cx.2.1 dX12_work_4 rfl (lv_at hl 1 rfl) ?_
  refine z_iald cx hp (zs_12_6 a0 (kt_lt ra0 (by decide)) ra0) ra1 dX12_work_5 hf (fun x1 rx1 hf => ?_)
  refine lv_istore (lv' := [(5, .int (ii x1)), (0, .ref (B + a0)), (1, .int (ii a1)), (2, .int (ii a2)), (3, .int (ii a3)), (4, .int (ii a4))]) cx.1 cx.2.1 dX12_work_6 hl (by decide) rfl (fun ls hl => ?_)
  refine z_iconst cx dX12_work_8 ?_
  refine lv_istore (lv' := [(6, .int (ii 0)), (5, .int (ii x1)), (0, .ref (B + a0)), (1, .int (ii a1)), (2, .int (ii a2)), (3, .int (ii a3)), (4, .int (ii a4))]) cx.1 cx.2.1 dX12_work_9 hl (by decide) rfl (fun ls hl => ?_)
  refine z_jn hf (fun j => ∀ (x54_5 : Int) (h : HF) (H : Heap) (locs : List Loc) (ls : Array Slot), rng x54_5 → Hp g B s h H locs → lv_has ls 7 [(0, .ref (B + a0)), (5, .int (ii x54_5))] → j x54_5 h = some o → W p l e (rmn 3) s m args below meth c H locs 0 0 Q (F0 m 54 ls [])) ?_ (fun j54 hj54 hf => ?_)
  · intro x54_5 h H locs ls rx54_5 hp hl hf
    refine lv_aload_n cx.1 cx.2.1 dX12_work_54 rfl (lv_at hl 0 rfl) ?_
    refine lv_iload cx.1 cx.2.1 dX12_work_55 (lv_at hl 1 rfl) ?_
    refine z_ci cx hp (fun o' hx => zrunV (n := 3) (As := [.int (ii x54_5)]) (rest := []) cx hp (mX12_addFunction F l g B h a0 x54_5 ra0 rx54_5 o' hx) 12 ra0 (by decide) rfl vw_X12_addFunction ml_X12_400 (by decide) rfl hl.1 rfl (Nat.le_of_ble_eq_true rfl) dX12_work_57) hf (fun r2 h H locs rr2 hp hf => ?_)
    rw [hQ]; exact z_zret cx hp dX12_work_60 hf
  exact wX12_work_11 F cx a0 ra0 a1 ra1 a2 ra2 a3 ra3 a4 ra4 x1 rx1 j54 hj54 F 0 h _ _ ls (by decide) hp (lv_sub hl [2, 3, 4, 5, 6, 1, 0] rfl) hf
theorem dX12_findFunctions_0 : decode cX12_findFunctions 0 = .ok (.aload_n 0, 1) := by decide +kernel
theorem dX12_findFunctions_1 : decode cX12_findFunctions 1 = .ok (.getfield 16, 3) := by decide +kernel
theorem dX12_findFunctions_4 : decode cX12_findFunctions 4 = .ok (.iload_n 1, 1) := by decide +kernel
theorem dX12_findFunctions_5 : decode cX12_findFunctions 5 = .ok (.iaload, 1) := by decide +kernel
theorem dX12_findFunctions_6 : decode cX12_findFunctions 6 = .ok (.istore_n 2, 1) := by decide +kernel
theorem dX12_findFunctions_7 : decode cX12_findFunctions 7 = .ok (.aload_n 0, 1) := by decide +kernel
theorem dX12_findFunctions_8 : decode cX12_findFunctions 8 = .ok (.iconst 0, 1) := by decide +kernel
theorem dX12_findFunctions_9 : decode cX12_findFunctions 9 = .ok (.putfield 394, 3) := by decide +kernel
theorem dX12_findFunctions_12 : decode cX12_findFunctions 12 = .ok (.iconst 0, 1) := by decide +kernel
theorem dX12_findFunctions_13 : decode cX12_findFunctions 13 = .ok (.istore_n 3, 1) := by decide +kernel
theorem dX12_findFunctions_14 : decode cX12_findFunctions 14 = .ok (.iload_n 3, 1) := by decide +kernel
theorem dX12_findFunctions_15 : decode cX12_findFunctions 15 = .ok (.iload_n 2, 1) := by decide +kernel
theorem dX12_findFunctions_16 : decode cX12_findFunctions 16 = .ok (.if_icmp .ge 16, 3) := by decide +kernel
theorem dX12_findFunctions_19 : decode cX12_findFunctions 19 = .ok (.aload_n 0, 1) := by decide +kernel
theorem dX12_findFunctions_20 : decode cX12_findFunctions 20 = .ok (.getfield 112, 3) := by decide +kernel
theorem dX12_findFunctions_23 : decode cX12_findFunctions 23 = .ok (.iload_n 3, 1) := by decide +kernel
theorem dX12_findFunctions_24 : decode cX12_findFunctions 24 = .ok (.iload_n 3, 1) := by decide +kernel
theorem dX12_findFunctions_25 : decode cX12_findFunctions 25 = .ok (.iastore, 1) := by decide +kernel
theorem dX12_findFunctions_26 : decode cX12_findFunctions 26 = .ok (.iinc 3 1, 3) := by decide +kernel
theorem dX12_findFunctions_29 : decode cX12_findFunctions 29 = .ok (.goto (-15), 3) := by decide +kernel
theorem dX12_findFunctions_32 : decode cX12_findFunctions 32 = .ok (.aload_n 0, 1) := by decide +kernel
theorem dX12_findFunctions_33 : decode cX12_findFunctions 33 = .ok (.iload_n 2, 1) := by decide +kernel
theorem dX12_findFunctions_34 : decode cX12_findFunctions 34 = .ok (.invokevirtual 400, 3) := by decide +kernel
theorem dX12_findFunctions_37 : decode cX12_findFunctions 37 = .ok (.istore_n 3, 1) := by decide +kernel
theorem dX12_findFunctions_38 : decode cX12_findFunctions 38 = .ok (.iconst 0, 1) := by decide +kernel
theorem dX12_findFunctions_39 : decode cX12_findFunctions 39 = .ok (.istore 4, 2) := by decide +kernel
theorem dX12_findFunctions_41 : decode cX12_findFunctions 41 = .ok (.iload 4, 2) := by decide +kernel
theorem dX12_findFunctions_43 : decode cX12_findFunctions 43 = .ok (.aload_n 0, 1) := by decide +kernel
theorem dX12_findFunctions_44 : decode cX12_findFunctions 44 = .ok (.getfield 19, 3) := by decide +kernel
theorem dX12_findFunctions_47 : decode cX12_findFunctions 47 = .ok (.iload_n 1, 1) := by decide +kernel
theorem dX12_findFunctions_48 : decode cX12_findFunctions 48 = .ok (.iaload, 1) := by decide +kernel
theorem dX12_findFunctions_49 : decode cX12_findFunctions 49 = .ok (.if_icmp .ge 41, 3) := by decide +kernel
theorem dX12_findFunctions_52 : decode cX12_findFunctions 52 = .ok (.iload_n 3, 1) := by decide +kernel
theorem dX12_findFunctions_53 : decode cX12_findFunctions 53 = .ok (.ifCond .eq 29, 3) := by decide +kernel
theorem dX12_findFunctions_56 : decode cX12_findFunctions 56 = .ok (.aload_n 0, 1) := by decide +kernel
theorem dX12_findFunctions_57 : decode cX12_findFunctions 57 = .ok (.iload_n 1, 1) := by decide +kernel
theorem dX12_findFunctions_58 : decode cX12_findFunctions 58 = .ok (.iload 4, 2) := by decide +kernel
theorem dX12_findFunctions_60 : decode cX12_findFunctions 60 = .ok (.invokevirtual 129, 3) := by decide +kernel
theorem dX12_findFunctions_63 : decode cX12_findFunctions 63 = .ok (.ifCond .gt 15, 3) := by decide +kernel
theorem dX12_findFunctions_66 : decode cX12_findFunctions 66 = .ok (.aload_n 0, 1) := by decide +kernel
theorem dX12_findFunctions_67 : decode cX12_findFunctions 67 = .ok (.iload_n 1, 1) := by decide +kernel
theorem dX12_findFunctions_68 : decode cX12_findFunctions 68 = .ok (.iload 4, 2) := by decide +kernel
theorem dX12_findFunctions_70 : decode cX12_findFunctions 70 = .ok (.iconst 0, 1) := by decide +kernel
theorem dX12_findFunctions_71 : decode cX12_findFunctions 71 = .ok (.iconst 0, 1) := by decide +kernel
theorem dX12_findFunctions_72 : decode cX12_findFunctions 72 = .ok (.invokevirtual 403, 3) := by decide +kernel
theorem dX12_findFunctions_75 : decode cX12_findFunctions 75 = .ok (.ifCond .eq 7, 3) := by decide +kernel
theorem dX12_findFunctions_78 : decode cX12_findFunctions 78 = .ok (.iconst 1, 1) := by decide +kernel
theorem dX12_findFunctions_79 : decode cX12_findFunctions 79 = .ok (.goto 4, 3) := by decide +kernel
theorem dX12_findFunctions_82 : decode cX12_findFunctions 82 = .ok (.iconst 0, 1) := by decide +kernel
theorem dX12_findFunctions_83 : decode cX12_findFunctions 83 = .ok (.istore_n 3, 1) := by decide +kernel
theorem dX12_findFunctions_84 : decode cX12_findFunctions 84 = .ok (.iinc 4 1, 3) := by decide +kernel
theorem dX12_findFunctions_87 : decode cX12_findFunctions 87 = .ok (.goto (-46), 3) := by decide +kernel
theorem dX12_findFunctions_90 : decode cX12_findFunctions 90 = .ok (.iconst 0, 1) := by decide +kernel
theorem dX12_findFunctions_91 : decode cX12_findFunctions 91 = .ok (.istore 4, 2) := by decide +kernel
theorem dX12_findFunctions_93 : decode cX12_findFunctions 93 = .ok (.iload 4, 2) := by decide +kernel
theorem dX12_findFunctions_95 : decode cX12_findFunctions 95 = .ok (.aload_n 0, 1) := by decide +kernel
theorem dX12_findFunctions_96 : decode cX12_findFunctions 96 = .ok (.getfield 394, 3) := by decide +kernel
theorem dX12_findFunctions_99 : decode cX12_findFunctions 99 = .ok (.if_icmp .ge 149, 3) := by decide +kernel
theorem dX12_findFunctions_102 : decode cX12_findFunctions 102 = .ok (.iload_n 3, 1) := by decide +kernel
theorem dX12_findFunctions_103 : decode cX12_findFunctions 103 = .ok (.ifCond .eq 145, 3) := by decide +kernel
theorem dX12_findFunctions_106 : decode cX12_findFunctions 106 = .ok (.iconst 0, 1) := by decide +kernel
theorem dX12_findFunctions_107 : decode cX12_findFunctions 107 = .ok (.istore 5, 2) := by decide +kernel
theorem dX12_findFunctions_109 : decode cX12_findFunctions 109 = .ok (.iload 5, 2) := by decide +kernel
theorem dX12_findFunctions_111 : decode cX12_findFunctions 111 = .ok (.aload_n 0, 1) := by decide +kernel
theorem dX12_findFunctions_112 : decode cX12_findFunctions 112 = .ok (.getfield 19, 3) := by decide +kernel
theorem dX12_findFunctions_115 : decode cX12_findFunctions 115 = .ok (.iload_n 1, 1) := by decide +kernel
theorem dX12_findFunctions_116 : decode cX12_findFunctions 116 = .ok (.iaload, 1) := by decide +kernel
theorem dX12_findFunctions_117 : decode cX12_findFunctions 117 = .ok (.if_icmp .ge 125, 3) := by decide +kernel
theorem dX12_findFunctions_120 : decode cX12_findFunctions 120 = .ok (.iload_n 3, 1) := by decide +kernel
theorem dX12_findFunctions_121 : decode cX12_findFunctions 121 = .ok (.ifCond .eq 121, 3) := by decide +kernel
theorem dX12_findFunctions_124 : decode cX12_findFunctions 124 = .ok (.aload_n 0, 1) := by decide +kernel
theorem dX12_findFunctions_125 : decode cX12_findFunctions 125 = .ok (.iload_n 1, 1) := by decide +kernel
theorem dX12_findFunctions_126 : decode cX12_findFunctions 126 = .ok (.iload 5, 2) := by decide +kernel
theorem dX12_findFunctions_128 : decode cX12_findFunctions 128 = .ok (.invokevirtual 129, 3) := by decide +kernel
theorem dX12_findFunctions_131 : decode cX12_findFunctions 131 = .ok (.iconst 1, 1) := by decide +kernel
theorem dX12_findFunctions_132 : decode cX12_findFunctions 132 = .ok (.if_icmp .ne 19, 3) := by decide +kernel
theorem dX12_findFunctions_135 : decode cX12_findFunctions 135 = .ok (.aload_n 0, 1) := by decide +kernel
theorem dX12_findFunctions_136 : decode cX12_findFunctions 136 = .ok (.iload_n 1, 1) := by decide +kernel
theorem dX12_findFunctions_137 : decode cX12_findFunctions 137 = .ok (.iload 5, 2) := by decide +kernel
theorem dX12_findFunctions_139 : decode cX12_findFunctions 139 = .ok (.aload_n 0, 1) := by decide +kernel
theorem dX12_findFunctions_140 : decode cX12_findFunctions 140 = .ok (.getfield 109, 3) := by decide +kernel
theorem dX12_findFunctions_143 : decode cX12_findFunctions 143 = .ok (.iload 4, 2) := by decide +kernel
theorem dX12_findFunctions_145 : decode cX12_findFunctions 145 = .ok (.iaload, 1) := by decide +kernel
theorem dX12_findFunctions_146 : decode cX12_findFunctions 146 = .ok (.iconst 0, 1) := by decide +kernel
theorem dX12_findFunctions_147 : decode cX12_findFunctions 147 = .ok (.invokevirtual 403, 3) := by decide +kernel
theorem dX12_findFunctions_150 : decode cX12_findFunctions 150 = .ok (.istore_n 3, 1) := by decide +kernel
theorem dX12_findFunctions_151 : decode cX12_findFunctions 151 = .ok (.iconst 0, 1) := by decide +kernel
theorem dX12_findFunctions_152 : decode cX12_findFunctions 152 = .ok (.istore 6, 2) := by decide +kernel
theorem dX12_findFunctions_154 : decode cX12_findFunctions 154 = .ok (.iload 6, 2) := by decide +kernel
theorem dX12_findFunctions_156 : decode cX12_findFunctions 156 = .ok (.iload 4, 2) := by decide +kernel
theorem dX12_findFunctions_158 : decode cX12_findFunctions 158 = .ok (.if_icmp .gt 78, 3) := by decide +kernel
theorem dX12_findFunctions_161 : decode cX12_findFunctions 161 = .ok (.aload_n 0, 1) := by decide +kernel
theorem dX12_findFunctions_162 : decode cX12_findFunctions 162 = .ok (.iload_n 1, 1) := by decide +kernel
theorem dX12_findFunctions_163 : decode cX12_findFunctions 163 = .ok (.iload 5, 2) := by decide +kernel
theorem dX12_findFunctions_165 : decode cX12_findFunctions 165 = .ok (.invokevirtual 129, 3) := by decide +kernel
theorem dX12_findFunctions_168 : decode cX12_findFunctions 168 = .ok (.iconst 2, 1) := by decide +kernel
theorem dX12_findFunctions_169 : decode cX12_findFunctions 169 = .ok (.if_icmp .ne 67, 3) := by decide +kernel
theorem dX12_findFunctions_172 : decode cX12_findFunctions 172 = .ok (.iload_n 3, 1) := by decide +kernel
theorem dX12_findFunctions_173 : decode cX12_findFunctions 173 = .ok (.ifCond .eq 63, 3) := by decide +kernel
theorem dX12_findFunctions_176 : decode cX12_findFunctions 176 = .ok (.aload_n 0, 1) := by decide +kernel
theorem dX12_findFunctions_177 : decode cX12_findFunctions 177 = .ok (.iload_n 1, 1) := by decide +kernel
theorem dX12_findFunctions_178 : decode cX12_findFunctions 178 = .ok (.iload 5, 2) := by decide +kernel
theorem dX12_findFunctions_180 : decode cX12_findFunctions 180 = .ok (.aload_n 0, 1) := by decide +kernel
theorem dX12_findFunctions_181 : decode cX12_findFunctions 181 = .ok (.getfield 109, 3) := by decide +kernel
theorem dX12_findFunctions_184 : decode cX12_findFunctions 184 = .ok (.iload 4, 2) := by decide +kernel
theorem dX12_findFunctions_186 : decode cX12_findFunctions 186 = .ok (.iaload, 1) := by decide +kernel
theorem dX12_findFunctions_187 : decode cX12_findFunctions 187 = .ok (.aload_n 0, 1) := by decide +kernel
theorem dX12_findFunctions_188 : decode cX12_findFunctions 188 = .ok (.getfield 109, 3) := by decide +kernel
theorem dX12_findFunctions_191 : decode cX12_findFunctions 191 = .ok (.iload 6, 2) := by decide +kernel
theorem dX12_findFunctions_193 : decode cX12_findFunctions 193 = .ok (.iaload, 1) := by decide +kernel
theorem dX12_findFunctions_194 : decode cX12_findFunctions 194 = .ok (.invokevirtual 403, 3) := by decide +kernel
theorem dX12_findFunctions_197 : decode cX12_findFunctions 197 = .ok (.ifCond .eq 31, 3) := by decide +kernel
theorem dX12_findFunctions_200 : decode cX12_findFunctions 200 = .ok (.aload_n 0, 1) := by decide +kernel
theorem dX12_findFunctions_201 : decode cX12_findFunctions 201 = .ok (.iload_n 1, 1) := by decide +kernel
theorem dX12_findFunctions_202 : decode cX12_findFunctions 202 = .ok (.iload 5, 2) := by decide +kernel
theorem dX12_findFunctions_204 : decode cX12_findFunctions 204 = .ok (.aload_n 0, 1) := by decide +kernel
theorem dX12_findFunctions_205 : decode cX12_findFunctions 205 = .ok (.getfield 109, 3) := by decide +kernel
theorem dX12_findFunctions_208 : decode cX12_findFunctions 208 = .ok (.iload 6, 2) := by decide +kernel
theorem dX12_findFunctions_210 : decode cX12_findFunctions 210 = .ok (.iaload, 1) := by decide +kernel
theorem dX12_findFunctions_211 : decode cX12_findFunctions 211 = .ok (.aload_n 0, 1) := by decide +kernel
theorem dX12_findFunctions_212 : decode cX12_findFunctions 212 = .ok (.getfield 109, 3) := by decide +kernel
theorem dX12_findFunctions_215 : decode cX12_findFunctions 215 = .ok (.iload 4, 2) := by decide +kernel
theorem dX12_findFunctions_217 : decode cX12_findFunctions 217 = .ok (.iaload, 1) := by decide +kernel
theorem dX12_findFunctions_218 : decode cX12_findFunctions 218 = .ok (.invokevirtual 403, 3) := by decide +kernel
theorem dX12_findFunctions_221 : decode cX12_findFunctions 221 = .ok (.ifCond .eq 7, 3) := by decide +kernel
theorem dX12_findFunctions_224 : decode cX12_findFunctions 224 = .ok (.iconst 1, 1) := by decide +kernel
theorem dX12_findFunctions_225 : decode cX12_findFunctions 225 = .ok (.goto 4, 3) := by decide +kernel
theorem dX12_findFunctions_228 : decode cX12_findFunctions 228 = .ok (.iconst 0, 1) := by decide +kernel
theorem dX12_findFunctions_229 : decode cX12_findFunctions 229 = .ok (.istore_n 3, 1) := by decide +kernel
theorem dX12_findFunctions_230 : decode cX12_findFunctions 230 = .ok (.iinc 6 1, 3) := by decide +kernel
theorem dX12_findFunctions_233 : decode cX12_findFunctions 233 = .ok (.goto (-79), 3) := by decide +kernel
theorem dX12_findFunctions_236 : decode cX12_findFunctions 236 = .ok (.iinc 5 1, 3) := by decide +kernel
theorem dX12_findFunctions_239 : decode cX12_findFunctions 239 = .ok (.goto (-130), 3) := by decide +kernel
theorem dX12_findFunctions_242 : decode cX12_findFunctions 242 = .ok (.iinc 4 1, 3) := by decide +kernel
theorem dX12_findFunctions_245 : decode cX12_findFunctions 245 = .ok (.goto (-152), 3) := by decide +kernel
theorem dX12_findFunctions_248 : decode cX12_findFunctions 248 = .ok (.iload_n 3, 1) := by decide +kernel
theorem dX12_findFunctions_249 : decode cX12_findFunctions 249 = .ok (.ireturn, 1) := by decide +kernel
def LX12_findFunctions_154 (F : Nat) (u0 : Nat) (u1 : Int) (u4 : Int) (u5 : Int) (k236 : Int → Int → HF → RO) : Nat → Int → Int → HF → RO
  | 0, _, _, _ => none
  | n + 1, v3, v6, h =>
    if u4 < v6 then (
      k236 v3 u5 h
    ) else (
      zbd (fX12_arity F u0 u1 u5 h) fun r8 h =>
      if r8 = 2 then (
        if v3 = 0 then (
          k236 v3 u5 h
        ) else (
          zrd h (u0 + 34) u4 fun x9 =>
          zrd h (u0 + 34) v6 fun x10 =>
          zbd (fX12_work F u0 u1 u5 x9 x10 h) fun r11 h =>
          zjn (fun (x229_6 : Int) (y229_0 : Int) (h : HF) => (
            zlet (wr (x229_6 + 1)) fun x12 =>
            LX12_findFunctions_154 F u0 u1 u4 u5 k236 n y229_0 x12 h
          )) fun j229 =>
          zjn (fun (x228_6 : Int) (h : HF) => (
            j229 x228_6 0 h
          )) fun j228 =>
          if r11 = 0 then (
            j228 v6 h
          ) else (
            zrd h (u0 + 34) v6 fun x13 =>
            zrd h (u0 + 34) u4 fun x14 =>
            zbd (fX12_work F u0 u1 u5 x13 x14 h) fun r15 h =>
            if r15 = 0 then (
              j228 v6 h
            ) else (
              j229 v6 1 h
            )
          )
        )
      ) else (
        k236 v3 u5 h
      )
    )
set_option maxHeartbeats 4000000 in
set_option maxRecDepth 100000 in
theorem wX12_findFunctions_154 {p : Program} {l : Launch} {e : Env} {s : State} {m : MethodId} {args : Array Value} {below : List Frame} {meth : Method} {c : Code} {Q : State → Prop} {g : zG} {B : Nat} {o : Int × HF} (F : Nat) (cx : Cx p s m args meth c cX12_findFunctions 7 RX12 (some .boolean) g B) (u0 : Nat) (ru0 : kt u0 = 15) (u1 : Int) (ru1 : rng u1) (u4 : Int) (ru4 : rng u4) (u5 : Int) (ru5 : rng u5) (k236 : Int → Int → HF → RO) (hk236 : ∀ (x3 : Int) (x5 : Int) (h : HF) (H : Heap) (locs : List Loc) (ls : Array Slot), rng x3 → rng x5 → Hp g B s h H locs → lv_has ls 7 [(0, .ref (B + u0)), (1, .int (ii u1)), (3, .int (ii x3)), (4, .int (ii u4)), (5, .int (ii x5))] → k236 x3 x5 h = some o → W p l e (rmn 4) s m args below meth c H locs 0 0 Q (F0 m 236 ls [])) : ∀ (n : Nat) (v3 : Int) (v6 : Int) (h : HF) (H : Heap) (locs : List Loc) (ls : Array Slot), rng v3 → rng v6 → Hp g B s h H locs → lv_has ls 7 [(0, .ref (B + u0)), (1, .int (ii u1)), (3, .int (ii v3)), (4, .int (ii u4)), (5, .int (ii u5)), (6, .int (ii v6))] → LX12_findFunctions_154 F u0 u1 u4 u5 k236 n v3 v6 h = some o → W p l e (rmn 4) s m args below meth c H locs 0 0 Q (F0 m 154 ls []) := by
  intro n
  induction n with
  | zero =>
    intro v3 v6 h H locs ls rv3 rv6 hp hl hf
    cases hf
  | succ n ih =>
    intro v3 v6 h H locs ls rv3 rv6 hp hl hf
    rw [LX12_findFunctions_154] at hf
    refine lv_iload cx.1 cx.2.1 dX12_findFunctions_154 (lv_at hl 5 rfl) ?_
    refine lv_iload cx.1 cx.2.1 dX12_findFunctions_156 (lv_at hl 3 rfl) ?_
    refine z_icmp_gt cx rv6 ru4 (tgt := 236) dX12_findFunctions_158 (by decide) hf (fun _ hf => ?_) (fun _ hf => ?_)
    · exact hk236 v3 u5 h _ _ ls rv3 ru5 hp (lv_sub hl [0, 1, 2, 3, 4] rfl) hf
    · refine lv_aload_n cx.1 cx.2.1 dX12_findFunctions_161 rfl (lv_at hl 0 rfl) ?_
      refine lv_iload_n cx.1 cx.2.1 dX12_findFunctions_162 rfl (lv_at hl 1 rfl) ?_
      refine lv_iload cx.1 cx.2.1 dX12_findFunctions_163 (lv_at hl 4 rfl) ?_
      refine z_ci cx hp (fun o' hx => zrunV (n := 4) (As := [.int (ii u1), .int (ii u5)]) (rest := []) cx hp (mX12_arity F l g B h u0 u1 u5 ru0 ru1 ru5 o' hx) 12 ru0 (by decide) rfl vw_X12_arity ml_X12_129 (by decide) rfl hl.1 rfl (Nat.le_of_ble_eq_true rfl) dX12_findFunctions_165) hf (fun r8 h H locs rr8 hp hf => ?_)
      refine z_iconst cx dX12_findFunctions_168 ?_
      refine z_icmp_ne cx rr8 (by decide) (tgt := 236) dX12_findFunctions_169 (by decide) hf (fun _ hf => ?_) (fun _ hf => ?_)
      · refine lv_iload_n cx.1 cx.2.1 dX12_findFunctions_172 rfl (lv_at hl 2 rfl) ?_
        refine z_if_eq cx rv3 (tgt := 236) dX12_findFunctions_173 (by decide) hf (fun _ hf => ?_) (fun _ hf => ?_)
        · exact hk236 v3 u5 h _ _ ls rv3 ru5 hp (lv_sub hl [0, 1, 2, 3, 4] rfl) hf
        · refine lv_aload_n cx.1 cx.2.1 dX12_findFunctions_176 rfl (lv_at hl 0 rfl) ?_
          refine lv_iload_n cx.1 cx.2.1 dX12_findFunctions_177 rfl (lv_at hl 1 rfl) ?_
          refine lv_iload cx.1 cx.2.1 dX12_findFunctions_178 (lv_at hl 4 rfl) ?_
          refine lv_aload_n cx.1 cx.2.1 dX12_findFunctions_180 rfl (lv_at hl 0 rfl) ?_
          refine z_gets cx hp (T := TX12) 12 52 (u0 + 34) rfl zin_12 (by decide) (by decide) ru0 rfl fl_X12_109 dX12_findFunctions_181 ?_
          refine lv_iload cx.1 cx.2.1 dX12_findFunctions_184 (lv_at hl 3 rfl) ?_
          refine z_iald cx hp (zs_12_52 u0 (kt_lt ru0 (by decide)) ru0) ru4 dX12_findFunctions_186 hf (fun x9 rx9 hf => ?_)
          refine lv_aload_n cx.1 cx.2.1 dX12_findFunctions_187 rfl (lv_at hl 0 rfl) ?_
          refine z_gets cx hp (T := TX12) 12 52 (u0 + 34) rfl zin_12 (by decide) (by decide) ru0 rfl fl_X12_109 dX12_findFunctions_188 ?_
          refine lv_iload cx.1 cx.2.1 dX12_findFunctions_191 (lv_at hl 5 rfl) ?_
          refine z_iald cx hp (zs_12_52 u0 (kt_lt ru0 (by decide)) ru0) rv6 dX12_findFunctions_193 hf (fun x10 rx10 hf => ?_)
          refine z_ci cx hp (fun o' hx => zrunV (n := 4) (As := [.int (ii u1), .int (ii u5), .int (ii x9), .int (ii x10)]) (rest := []) cx hp (mX12_work F l g B h u0 u1 u5 x9 x10 ru0 ru1 ru5 rx9 rx10 o' hx) 12 ru0 (by decide) rfl vw_X12_work ml_X12_403 (by decide) rfl hl.1 rfl (Nat.le_of_ble_eq_true rfl) dX12_findFunctions_194) hf (fun r11 h H locs rr11 hp hf => ?_)
          refine z_jn hf (fun j => ∀ (x229_6 : Int) (y229_0 : Int) (h : HF) (H : Heap) (locs : List Loc) (ls : Array Slot), rng x229_6 → rng y229_0 → Hp g B s h H locs → lv_has ls 7 [(0, .ref (B + u0)), (1, .int (ii u1)), (4, .int (ii u4)), (5, .int (ii u5)), (6, .int (ii x229_6))] → j x229_6 y229_0 h = some o → W p l e (rmn 4) s m args below meth c H locs 0 0 Q (F0 m 229 ls [.int (ii y229_0)])) ?_ (fun j229 hj229 hf => ?_)
          · intro x229_6 y229_0 h H locs ls rx229_6 ry229_0 hp hl hf
            refine lv_istore_n (lv' := [(3, .int (ii y229_0)), (0, .ref (B + u0)), (1, .int (ii u1)), (4, .int (ii u4)), (5, .int (ii u5)), (6, .int (ii x229_6))]) cx.1 cx.2.1 dX12_findFunctions_229 rfl hl (by decide) rfl (fun ls hl => ?_)
            refine z_iinc cx (fun x12 => [(6, .int (ii x12)), (3, .int (ii y229_0)), (0, .ref (B + u0)), (1, .int (ii u1)), (4, .int (ii u4)), (5, .int (ii u5))]) dX12_findFunctions_230 hl (k := 5) rfl (by decide) (fun _ => rfl) hf (fun x12 rx12 hf ls hl => ?_)
            refine lv_goto (tgt := 154) cx.1 cx.2.1 dX12_findFunctions_233 (by decide) ?_
            exact ih y229_0 x12 h _ _ ls ry229_0 rx12 hp (lv_sub hl [2, 3, 1, 4, 5, 0] rfl) hf
          refine z_jn hf (fun j => ∀ (x228_6 : Int) (h : HF) (H : Heap) (locs : List Loc) (ls : Array Slot), rng x228_6 → Hp g B s h H locs → lv_has ls 7 [(0, .ref (B + u0)), (1, .int (ii u1)), (4, .int (ii u4)), (5, .int (ii u5)), (6, .int (ii x228_6))] → j x228_6 h = some o → W p l e (rmn 4) s m args below meth c H locs 0 0 Q (F0 m 228 ls [])) ?_ (fun j228 hj228 hf => ?_)
          · intro x228_6 h H locs ls rx228_6 hp hl hf
            refine z_iconst cx dX12_findFunctions_228 ?_
            exact hj229 x228_6 0 h _ _ ls rx228_6 (by decide) hp (lv_sub hl [0, 1, 2, 3, 4] rfl) hf
          refine z_if_eq cx rr11 (tgt := 228) dX12_findFunctions_197 (by decide) hf (fun _ hf => ?_) (fun _ hf => ?_)
          · exact hj228 v6 h _ _ ls rv6 hp (lv_sub hl [0, 1, 3, 4, 5] rfl) hf
          · refine lv_aload_n cx.1 cx.2.1 dX12_findFunctions_200 rfl (lv_at hl 0 rfl) ?_
            refine lv_iload_n cx.1 cx.2.1 dX12_findFunctions_201 rfl (lv_at hl 1 rfl) ?_
            refine lv_iload cx.1 cx.2.1 dX12_findFunctions_202 (lv_at hl 4 rfl) ?_
            refine lv_aload_n cx.1 cx.2.1 dX12_findFunctions_204 rfl (lv_at hl 0 rfl) ?_
            refine z_gets cx hp (T := TX12) 12 52 (u0 + 34) rfl zin_12 (by decide) (by decide) ru0 rfl fl_X12_109 dX12_findFunctions_205 ?_
            refine lv_iload cx.1 cx.2.1 dX12_findFunctions_208 (lv_at hl 5 rfl) ?_
            refine z_iald cx hp (zs_12_52 u0 (kt_lt ru0 (by decide)) ru0) rv6 dX12_findFunctions_210 hf (fun x13 rx13 hf => ?_)
            refine lv_aload_n cx.1 cx.2.1 dX12_findFunctions_211 rfl (lv_at hl 0 rfl) ?_
            refine z_gets cx hp (T := TX12) 12 52 (u0 + 34) rfl zin_12 (by decide) (by decide) ru0 rfl fl_X12_109 dX12_findFunctions_212 ?_
            refine lv_iload cx.1 cx.2.1 dX12_findFunctions_215 (lv_at hl 3 rfl) ?_
            refine z_iald cx hp (zs_12_52 u0 (kt_lt ru0 (by decide)) ru0) ru4 dX12_findFunctions_217 hf (fun x14 rx14 hf => ?_)
            refine z_ci cx hp (fun o' hx => zrunV (n := 4) (As := [.int (ii u1), .int (ii u5), .int (ii x13), .int (ii x14)]) (rest := []) cx hp (mX12_work F l g B h u0 u1 u5 x13 x14 ru0 ru1 ru5 rx13 rx14 o' hx) 12 ru0 (by decide) rfl vw_X12_work ml_X12_403 (by decide) rfl hl.1 rfl (Nat.le_of_ble_eq_true rfl) dX12_findFunctions_218) hf (fun r15 h H locs rr15 hp hf => ?_)
            refine z_if_eq cx rr15 (tgt := 228) dX12_findFunctions_221 (by decide) hf (fun _ hf => ?_) (fun _ hf => ?_)
            · exact hj228 v6 h _ _ ls rv6 hp (lv_sub hl [0, 1, 3, 4, 5] rfl) hf
            · refine z_iconst cx dX12_findFunctions_224 ?_
              refine lv_goto (tgt := 229) cx.1 cx.2.1 dX12_findFunctions_225 (by decide) ?_
              exact hj229 v6 1 h _ _ ls rv6 (by decide) hp (lv_sub hl [0, 1, 3, 4, 5] rfl) hf
      · exact hk236 v3 u5 h _ _ ls rv3 ru5 hp (lv_sub hl [0, 1, 2, 3, 4] rfl) hf
def LX12_findFunctions_109 (F : Nat) (u0 : Nat) (u1 : Int) (u4 : Int) (k242 : Int → Int → HF → RO) : Nat → Int → Int → HF → RO
  | 0, _, _, _ => none
  | n + 1, v3, v5, h =>
    zrd h (u0 + 4) u1 fun x5 =>
    if v5 < x5 then (
      if v3 = 0 then (
        k242 v3 u4 h
      ) else (
        zbd (fX12_arity F u0 u1 v5 h) fun r6 h =>
        zjn (fun (x151_3 : Int) (x151_5 : Int) (h : HF) => (
          zjn (fun (x236_3 : Int) (x236_5 : Int) (h : HF) => (
            zlet (wr (x236_5 + 1)) fun x7 =>
            LX12_findFunctions_109 F u0 u1 u4 k242 n x236_3 x7 h
          )) fun j236 =>
          LX12_findFunctions_154 F u0 u1 u4 x151_5 j236 F x151_3 0 h
        )) fun j151 =>
        if r6 = 1 then (
          zrd h (u0 + 34) u4 fun x16 =>
          zbd (fX12_work F u0 u1 v5 x16 0 h) fun r17 h =>
          j151 r17 v5 h
        ) else (
          j151 v3 v5 h
        )
      )
    ) else (
      k242 v3 u4 h
    )
set_option maxHeartbeats 4000000 in
set_option maxRecDepth 100000 in
theorem wX12_findFunctions_109 {p : Program} {l : Launch} {e : Env} {s : State} {m : MethodId} {args : Array Value} {below : List Frame} {meth : Method} {c : Code} {Q : State → Prop} {g : zG} {B : Nat} {o : Int × HF} (F : Nat) (cx : Cx p s m args meth c cX12_findFunctions 7 RX12 (some .boolean) g B) (u0 : Nat) (ru0 : kt u0 = 15) (u1 : Int) (ru1 : rng u1) (u4 : Int) (ru4 : rng u4) (k242 : Int → Int → HF → RO) (hk242 : ∀ (x3 : Int) (x4 : Int) (h : HF) (H : Heap) (locs : List Loc) (ls : Array Slot), rng x3 → rng x4 → Hp g B s h H locs → lv_has ls 7 [(0, .ref (B + u0)), (1, .int (ii u1)), (3, .int (ii x3)), (4, .int (ii x4))] → k242 x3 x4 h = some o → W p l e (rmn 4) s m args below meth c H locs 0 0 Q (F0 m 242 ls [])) : ∀ (n : Nat) (v3 : Int) (v5 : Int) (h : HF) (H : Heap) (locs : List Loc) (ls : Array Slot), rng v3 → rng v5 → Hp g B s h H locs → lv_has ls 7 [(0, .ref (B + u0)), (1, .int (ii u1)), (3, .int (ii v3)), (4, .int (ii u4)), (5, .int (ii v5))] → LX12_findFunctions_109 F u0 u1 u4 k242 n v3 v5 h = some o → W p l e (rmn 4) s m args below meth c H locs 0 0 Q (F0 m 109 ls []) := by
  intro n
  induction n with
  | zero =>
    intro v3 v5 h H locs ls rv3 rv5 hp hl hf
    cases hf
  | succ n ih =>
    intro v3 v5 h H locs ls rv3 rv5 hp hl hf
    rw [LX12_findFunctions_109] at hf
    refine lv_iload cx.1 cx.2.1 dX12_findFunctions_109 (lv_at hl 4 rfl) ?_
    refine lv_aload_n cx.1 cx.2.1 dX12_findFunctions_111 rfl (lv_at hl 0 rfl) ?_
    refine z_gets cx hp (T := TX12) 12 7 (u0 + 4) rfl zin_12 (by decide) (by decide) ru0 rfl fl_X12_19 dX12_findFunctions_112 ?_
    refine lv_iload_n cx.1 cx.2.1 dX12_findFunctions_115 rfl (lv_at hl 1 rfl) ?_
    refine z_iald cx hp (zs_12_7 u0 (kt_lt ru0 (by decide)) ru0) ru1 dX12_findFunctions_116 hf (fun x5 rx5 hf => ?_)
    refine z_icmp_ge cx rv5 rx5 (tgt := 242) dX12_findFunctions_117 (by decide) hf (fun _ hf => ?_) (fun _ hf => ?_)
    · refine lv_iload_n cx.1 cx.2.1 dX12_findFunctions_120 rfl (lv_at hl 2 rfl) ?_
      refine z_if_eq cx rv3 (tgt := 242) dX12_findFunctions_121 (by decide) hf (fun _ hf => ?_) (fun _ hf => ?_)
      · exact hk242 v3 u4 h _ _ ls rv3 ru4 hp (lv_sub hl [0, 1, 2, 3] rfl) hf
      · refine lv_aload_n cx.1 cx.2.1 dX12_findFunctions_124 rfl (lv_at hl 0 rfl) ?_
        refine lv_iload_n cx.1 cx.2.1 dX12_findFunctions_125 rfl (lv_at hl 1 rfl) ?_
        refine lv_iload cx.1 cx.2.1 dX12_findFunctions_126 (lv_at hl 4 rfl) ?_
        refine z_ci cx hp (fun o' hx => zrunV (n := 4) (As := [.int (ii u1), .int (ii v5)]) (rest := []) cx hp (mX12_arity F l g B h u0 u1 v5 ru0 ru1 rv5 o' hx) 12 ru0 (by decide) rfl vw_X12_arity ml_X12_129 (by decide) rfl hl.1 rfl (Nat.le_of_ble_eq_true rfl) dX12_findFunctions_128) hf (fun r6 h H locs rr6 hp hf => ?_)
        refine z_iconst cx dX12_findFunctions_131 ?_
        refine z_jn hf (fun j => ∀ (x151_3 : Int) (x151_5 : Int) (h : HF) (H : Heap) (locs : List Loc) (ls : Array Slot), rng x151_3 → rng x151_5 → Hp g B s h H locs → lv_has ls 7 [(0, .ref (B + u0)), (1, .int (ii u1)), (3, .int (ii x151_3)), (4, .int (ii u4)), (5, .int (ii x151_5))] → j x151_3 x151_5 h = some o → W p l e (rmn 4) s m args below meth c H locs 0 0 Q (F0 m 151 ls [])) ?_ (fun j151 hj151 hf => ?_)
        · intro x151_3 x151_5 h H locs ls rx151_3 rx151_5 hp hl hf
          refine z_iconst cx dX12_findFunctions_151 ?_
          refine lv_istore (lv' := [(6, .int (ii 0)), (0, .ref (B + u0)), (1, .int (ii u1)), (3, .int (ii x151_3)), (4, .int (ii u4)), (5, .int (ii x151_5))]) cx.1 cx.2.1 dX12_findFunctions_152 hl (by decide) rfl (fun ls hl => ?_)
          refine z_jn hf (fun j => ∀ (x236_3 : Int) (x236_5 : Int) (h : HF) (H : Heap) (locs : List Loc) (ls : Array Slot), rng x236_3 → rng x236_5 → Hp g B s h H locs → lv_has ls 7 [(0, .ref (B + u0)), (1, .int (ii u1)), (3, .int (ii x236_3)), (4, .int (ii u4)), (5, .int (ii x236_5))] → j x236_3 x236_5 h = some o → W p l e (rmn 4) s m args below meth c H locs 0 0 Q (F0 m 236 ls [])) ?_ (fun j236 hj236 hf => ?_)
          · intro x236_3 x236_5 h H locs ls rx236_3 rx236_5 hp hl hf
            refine z_iinc cx (fun x7 => [(5, .int (ii x7)), (0, .ref (B + u0)), (1, .int (ii u1)), (3, .int (ii x236_3)), (4, .int (ii u4))]) dX12_findFunctions_236 hl (k := 4) rfl (by decide) (fun _ => rfl) hf (fun x7 rx7 hf ls hl => ?_)
            refine lv_goto (tgt := 109) cx.1 cx.2.1 dX12_findFunctions_239 (by decide) ?_
            exact ih x236_3 x7 h _ _ ls rx236_3 rx7 hp (lv_sub hl [1, 2, 3, 4, 0] rfl) hf
          exact wX12_findFunctions_154 F cx u0 ru0 u1 ru1 u4 ru4 x151_5 rx151_5 j236 hj236 F x151_3 0 h _ _ ls rx151_3 (by decide) hp (lv_sub hl [1, 2, 3, 4, 5, 0] rfl) hf
        refine z_icmp_ne cx rr6 (by decide) (tgt := 151) dX12_findFunctions_132 (by decide) hf (fun _ hf => ?_) (fun _ hf => ?_)
        · refine lv_aload_n cx.1 cx.2.1 dX12_findFunctions_135 rfl (lv_at hl 0 rfl) ?_
          refine lv_iload_n cx.1 cx.2.1 dX12_findFunctions_136 rfl (lv_at hl 1 rfl) ?_
          refine lv_iload cx.1 cx.2.1 dX12_findFunctions_137 (lv_at hl 4 rfl) ?_
          refine lv_aload_n cx.1 cx.2.1 dX12_findFunctions_139 rfl (lv_at hl 0 rfl) ?_
          refine z_gets cx hp (T := TX12) 12 52 (u0 + 34) rfl zin_12 (by decide) (by decide) ru0 rfl fl_X12_109 dX12_findFunctions_140 ?_
          refine lv_iload cx.1 cx.2.1 dX12_findFunctions_143 (lv_at hl 3 rfl) ?_
          refine z_iald cx hp (zs_12_52 u0 (kt_lt ru0 (by decide)) ru0) ru4 dX12_findFunctions_145 hf (fun x16 rx16 hf => ?_)
          refine z_iconst cx dX12_findFunctions_146 ?_
          refine z_ci cx hp (fun o' hx => zrunV (n := 4) (As := [.int (ii u1), .int (ii v5), .int (ii x16), .int (ii 0)]) (rest := []) cx hp (mX12_work F l g B h u0 u1 v5 x16 0 ru0 ru1 rv5 rx16 (by decide) o' hx) 12 ru0 (by decide) rfl vw_X12_work ml_X12_403 (by decide) rfl hl.1 rfl (Nat.le_of_ble_eq_true rfl) dX12_findFunctions_147) hf (fun r17 h H locs rr17 hp hf => ?_)
          refine lv_istore_n (lv' := [(3, .int (ii r17)), (0, .ref (B + u0)), (1, .int (ii u1)), (4, .int (ii u4)), (5, .int (ii v5))]) cx.1 cx.2.1 dX12_findFunctions_150 rfl hl (by decide) rfl (fun ls hl => ?_)
          exact hj151 r17 v5 h _ _ ls rr17 rv5 hp (lv_sub hl [1, 2, 0, 3, 4] rfl) hf
        · exact hj151 v3 v5 h _ _ ls rv3 rv5 hp (lv_sub hl [0, 1, 2, 3, 4] rfl) hf
    · exact hk242 v3 u4 h _ _ ls rv3 ru4 hp (lv_sub hl [0, 1, 2, 3] rfl) hf
def LX12_findFunctions_93 (F : Nat) (u0 : Nat) (u1 : Int) (k248 : Int → HF → RO) : Nat → Int → Int → HF → RO
  | 0, _, _, _ => none
  | n + 1, v3, v4, h =>
    zgf h u0 53 fun x3 =>
    if v4 < x3 then (
      if v3 = 0 then (
        k248 v3 h
      ) else (
        zjn (fun (x242_3 : Int) (x242_4 : Int) (h : HF) => (
          zlet (wr (x242_4 + 1)) fun x4 =>
          LX12_findFunctions_93 F u0 u1 k248 n x242_3 x4 h
        )) fun j242 =>
        LX12_findFunctions_109 F u0 u1 v4 j242 F v3 0 h
      )
    ) else (
      k248 v3 h
    )
set_option maxHeartbeats 4000000 in
set_option maxRecDepth 100000 in
theorem wX12_findFunctions_93 {p : Program} {l : Launch} {e : Env} {s : State} {m : MethodId} {args : Array Value} {below : List Frame} {meth : Method} {c : Code} {Q : State → Prop} {g : zG} {B : Nat} {o : Int × HF} (F : Nat) (cx : Cx p s m args meth c cX12_findFunctions 7 RX12 (some .boolean) g B) (u0 : Nat) (ru0 : kt u0 = 15) (u1 : Int) (ru1 : rng u1) (k248 : Int → HF → RO) (hk248 : ∀ (x3 : Int) (h : HF) (H : Heap) (locs : List Loc) (ls : Array Slot), rng x3 → Hp g B s h H locs → lv_has ls 7 [(3, .int (ii x3))] → k248 x3 h = some o → W p l e (rmn 4) s m args below meth c H locs 0 0 Q (F0 m 248 ls [])) : ∀ (n : Nat) (v3 : Int) (v4 : Int) (h : HF) (H : Heap) (locs : List Loc) (ls : Array Slot), rng v3 → rng v4 → Hp g B s h H locs → lv_has ls 7 [(0, .ref (B + u0)), (1, .int (ii u1)), (3, .int (ii v3)), (4, .int (ii v4))] → LX12_findFunctions_93 F u0 u1 k248 n v3 v4 h = some o → W p l e (rmn 4) s m args below meth c H locs 0 0 Q (F0 m 93 ls []) := by
  intro n
  induction n with
  | zero =>
    intro v3 v4 h H locs ls rv3 rv4 hp hl hf
    cases hf
  | succ n ih =>
    intro v3 v4 h H locs ls rv3 rv4 hp hl hf
    rw [LX12_findFunctions_93] at hf
    refine lv_iload cx.1 cx.2.1 dX12_findFunctions_93 (lv_at hl 3 rfl) ?_
    refine lv_aload_n cx.1 cx.2.1 dX12_findFunctions_95 rfl (lv_at hl 0 rfl) ?_
    refine z_geti cx hp (T := TX12) 12 53 rfl zin_12 (by decide) (by decide) ru0 rfl fl_X12_394 dX12_findFunctions_96 hf (fun x3 rx3 hf => ?_)
    refine z_icmp_ge cx rv4 rx3 (tgt := 248) dX12_findFunctions_99 (by decide) hf (fun _ hf => ?_) (fun _ hf => ?_)
    · refine lv_iload_n cx.1 cx.2.1 dX12_findFunctions_102 rfl (lv_at hl 2 rfl) ?_
      refine z_if_eq cx rv3 (tgt := 248) dX12_findFunctions_103 (by decide) hf (fun _ hf => ?_) (fun _ hf => ?_)
      · exact hk248 v3 h _ _ ls rv3 hp (lv_sub hl [2] rfl) hf
      · refine z_iconst cx dX12_findFunctions_106 ?_
        refine lv_istore (lv' := [(5, .int (ii 0)), (0, .ref (B + u0)), (1, .int (ii u1)), (3, .int (ii v3)), (4, .int (ii v4))]) cx.1 cx.2.1 dX12_findFunctions_107 hl (by decide) rfl (fun ls hl => ?_)
        refine z_jn hf (fun j => ∀ (x242_3 : Int) (x242_4 : Int) (h : HF) (H : Heap) (locs : List Loc) (ls : Array Slot), rng x242_3 → rng x242_4 → Hp g B s h H locs → lv_has ls 7 [(0, .ref (B + u0)), (1, .int (ii u1)), (3, .int (ii x242_3)), (4, .int (ii x242_4))] → j x242_3 x242_4 h = some o → W p l e (rmn 4) s m args below meth c H locs 0 0 Q (F0 m 242 ls [])) ?_ (fun j242 hj242 hf => ?_)
        · intro x242_3 x242_4 h H locs ls rx242_3 rx242_4 hp hl hf
          refine z_iinc cx (fun x4 => [(4, .int (ii x4)), (0, .ref (B + u0)), (1, .int (ii u1)), (3, .int (ii x242_3))]) dX12_findFunctions_242 hl (k := 3) rfl (by decide) (fun _ => rfl) hf (fun x4 rx4 hf ls hl => ?_)
          refine lv_goto (tgt := 93) cx.1 cx.2.1 dX12_findFunctions_245 (by decide) ?_
          exact ih x242_3 x4 h _ _ ls rx242_3 rx4 hp (lv_sub hl [1, 2, 3, 0] rfl) hf
        exact wX12_findFunctions_109 F cx u0 ru0 u1 ru1 v4 rv4 j242 hj242 F v3 0 h _ _ ls rv3 (by decide) hp (lv_sub hl [1, 2, 3, 4, 0] rfl) hf
    · exact hk248 v3 h _ _ ls rv3 hp (lv_sub hl [2] rfl) hf
def LX12_findFunctions_41 (F : Nat) (u0 : Nat) (u1 : Int) (k90 : Int → HF → RO) : Nat → Int → Int → HF → RO
  | 0, _, _, _ => none
  | n + 1, v3, v4, h =>
    zrd h (u0 + 4) u1 fun x18 =>
    if v4 < x18 then (
      zjn (fun (x83_4 : Int) (y83_0 : Int) (h : HF) => (
        zlet (wr (x83_4 + 1)) fun x19 =>
        LX12_findFunctions_41 F u0 u1 k90 n y83_0 x19 h
      )) fun j83 =>
      zjn (fun (x82_4 : Int) (h : HF) => (
        j83 x82_4 0 h
      )) fun j82 =>
      if v3 = 0 then (
        j82 v4 h
      ) else (
        zbd (fX12_arity F u0 u1 v4 h) fun r20 h =>
        zjn (fun (x78_4 : Int) (h : HF) => (
          j83 x78_4 1 h
        )) fun j78 =>
        if 0 < r20 then (
          j78 v4 h
        ) else (
          zbd (fX12_work F u0 u1 v4 0 0 h) fun r21 h =>
          if r21 = 0 then (
            j82 v4 h
          ) else (
            j78 v4 h
          )
        )
      )
    ) else (
      k90 v3 h
    )
set_option maxHeartbeats 4000000 in
set_option maxRecDepth 100000 in
theorem wX12_findFunctions_41 {p : Program} {l : Launch} {e : Env} {s : State} {m : MethodId} {args : Array Value} {below : List Frame} {meth : Method} {c : Code} {Q : State → Prop} {g : zG} {B : Nat} {o : Int × HF} (F : Nat) (cx : Cx p s m args meth c cX12_findFunctions 7 RX12 (some .boolean) g B) (u0 : Nat) (ru0 : kt u0 = 15) (u1 : Int) (ru1 : rng u1) (k90 : Int → HF → RO) (hk90 : ∀ (x3 : Int) (h : HF) (H : Heap) (locs : List Loc) (ls : Array Slot), rng x3 → Hp g B s h H locs → lv_has ls 7 [(0, .ref (B + u0)), (1, .int (ii u1)), (3, .int (ii x3))] → k90 x3 h = some o → W p l e (rmn 4) s m args below meth c H locs 0 0 Q (F0 m 90 ls [])) : ∀ (n : Nat) (v3 : Int) (v4 : Int) (h : HF) (H : Heap) (locs : List Loc) (ls : Array Slot), rng v3 → rng v4 → Hp g B s h H locs → lv_has ls 7 [(0, .ref (B + u0)), (1, .int (ii u1)), (3, .int (ii v3)), (4, .int (ii v4))] → LX12_findFunctions_41 F u0 u1 k90 n v3 v4 h = some o → W p l e (rmn 4) s m args below meth c H locs 0 0 Q (F0 m 41 ls []) := by
  intro n
  induction n with
  | zero =>
    intro v3 v4 h H locs ls rv3 rv4 hp hl hf
    cases hf
  | succ n ih =>
    intro v3 v4 h H locs ls rv3 rv4 hp hl hf
    rw [LX12_findFunctions_41] at hf
    refine lv_iload cx.1 cx.2.1 dX12_findFunctions_41 (lv_at hl 3 rfl) ?_
    refine lv_aload_n cx.1 cx.2.1 dX12_findFunctions_43 rfl (lv_at hl 0 rfl) ?_
    refine z_gets cx hp (T := TX12) 12 7 (u0 + 4) rfl zin_12 (by decide) (by decide) ru0 rfl fl_X12_19 dX12_findFunctions_44 ?_
    refine lv_iload_n cx.1 cx.2.1 dX12_findFunctions_47 rfl (lv_at hl 1 rfl) ?_
    refine z_iald cx hp (zs_12_7 u0 (kt_lt ru0 (by decide)) ru0) ru1 dX12_findFunctions_48 hf (fun x18 rx18 hf => ?_)
    refine z_icmp_ge cx rv4 rx18 (tgt := 90) dX12_findFunctions_49 (by decide) hf (fun _ hf => ?_) (fun _ hf => ?_)
    · refine lv_iload_n cx.1 cx.2.1 dX12_findFunctions_52 rfl (lv_at hl 2 rfl) ?_
      refine z_jn hf (fun j => ∀ (x83_4 : Int) (y83_0 : Int) (h : HF) (H : Heap) (locs : List Loc) (ls : Array Slot), rng x83_4 → rng y83_0 → Hp g B s h H locs → lv_has ls 7 [(0, .ref (B + u0)), (1, .int (ii u1)), (4, .int (ii x83_4))] → j x83_4 y83_0 h = some o → W p l e (rmn 4) s m args below meth c H locs 0 0 Q (F0 m 83 ls [.int (ii y83_0)])) ?_ (fun j83 hj83 hf => ?_)
      · intro x83_4 y83_0 h H locs ls rx83_4 ry83_0 hp hl hf
        refine lv_istore_n (lv' := [(3, .int (ii y83_0)), (0, .ref (B + u0)), (1, .int (ii u1)), (4, .int (ii x83_4))]) cx.1 cx.2.1 dX12_findFunctions_83 rfl hl (by decide) rfl (fun ls hl => ?_)
        refine z_iinc cx (fun x19 => [(4, .int (ii x19)), (3, .int (ii y83_0)), (0, .ref (B + u0)), (1, .int (ii u1))]) dX12_findFunctions_84 hl (k := 3) rfl (by decide) (fun _ => rfl) hf (fun x19 rx19 hf ls hl => ?_)
        refine lv_goto (tgt := 41) cx.1 cx.2.1 dX12_findFunctions_87 (by decide) ?_
        exact ih y83_0 x19 h _ _ ls ry83_0 rx19 hp (lv_sub hl [2, 3, 1, 0] rfl) hf
      refine z_jn hf (fun j => ∀ (x82_4 : Int) (h : HF) (H : Heap) (locs : List Loc) (ls : Array Slot), rng x82_4 → Hp g B s h H locs → lv_has ls 7 [(0, .ref (B + u0)), (1, .int (ii u1)), (4, .int (ii x82_4))] → j x82_4 h = some o → W p l e (rmn 4) s m args below meth c H locs 0 0 Q (F0 m 82 ls [])) ?_ (fun j82 hj82 hf => ?_)
      · intro x82_4 h H locs ls rx82_4 hp hl hf
        refine z_iconst cx dX12_findFunctions_82 ?_
        exact hj83 x82_4 0 h _ _ ls rx82_4 (by decide) hp (lv_sub hl [0, 1, 2] rfl) hf
      refine z_if_eq cx rv3 (tgt := 82) dX12_findFunctions_53 (by decide) hf (fun _ hf => ?_) (fun _ hf => ?_)
      · exact hj82 v4 h _ _ ls rv4 hp (lv_sub hl [0, 1, 3] rfl) hf
      · refine lv_aload_n cx.1 cx.2.1 dX12_findFunctions_56 rfl (lv_at hl 0 rfl) ?_
        refine lv_iload_n cx.1 cx.2.1 dX12_findFunctions_57 rfl (lv_at hl 1 rfl) ?_
        refine lv_iload cx.1 cx.2.1 dX12_findFunctions_58 (lv_at hl 3 rfl) ?_
        refine z_ci cx hp (fun o' hx => zrunV (n := 4) (As := [.int (ii u1), .int (ii v4)]) (rest := []) cx hp (mX12_arity F l g B h u0 u1 v4 ru0 ru1 rv4 o' hx) 12 ru0 (by decide) rfl vw_X12_arity ml_X12_129 (by decide) rfl hl.1 rfl (Nat.le_of_ble_eq_true rfl) dX12_findFunctions_60) hf (fun r20 h H locs rr20 hp hf => ?_)
        refine z_jn hf (fun j => ∀ (x78_4 : Int) (h : HF) (H : Heap) (locs : List Loc) (ls : Array Slot), rng x78_4 → Hp g B s h H locs → lv_has ls 7 [(0, .ref (B + u0)), (1, .int (ii u1)), (4, .int (ii x78_4))] → j x78_4 h = some o → W p l e (rmn 4) s m args below meth c H locs 0 0 Q (F0 m 78 ls [])) ?_ (fun j78 hj78 hf => ?_)
        · intro x78_4 h H locs ls rx78_4 hp hl hf
          refine z_iconst cx dX12_findFunctions_78 ?_
          refine lv_goto (tgt := 83) cx.1 cx.2.1 dX12_findFunctions_79 (by decide) ?_
          exact hj83 x78_4 1 h _ _ ls rx78_4 (by decide) hp (lv_sub hl [0, 1, 2] rfl) hf
        refine z_if_gt cx rr20 (tgt := 78) dX12_findFunctions_63 (by decide) hf (fun _ hf => ?_) (fun _ hf => ?_)
        · exact hj78 v4 h _ _ ls rv4 hp (lv_sub hl [0, 1, 3] rfl) hf
        · refine lv_aload_n cx.1 cx.2.1 dX12_findFunctions_66 rfl (lv_at hl 0 rfl) ?_
          refine lv_iload_n cx.1 cx.2.1 dX12_findFunctions_67 rfl (lv_at hl 1 rfl) ?_
          refine lv_iload cx.1 cx.2.1 dX12_findFunctions_68 (lv_at hl 3 rfl) ?_
          refine z_iconst cx dX12_findFunctions_70 ?_
          refine z_iconst cx dX12_findFunctions_71 ?_
          refine z_ci cx hp (fun o' hx => zrunV (n := 4) (As := [.int (ii u1), .int (ii v4), .int (ii 0), .int (ii 0)]) (rest := []) cx hp (mX12_work F l g B h u0 u1 v4 0 0 ru0 ru1 rv4 (by decide) (by decide) o' hx) 12 ru0 (by decide) rfl vw_X12_work ml_X12_403 (by decide) rfl hl.1 rfl (Nat.le_of_ble_eq_true rfl) dX12_findFunctions_72) hf (fun r21 h H locs rr21 hp hf => ?_)
          refine z_if_eq cx rr21 (tgt := 82) dX12_findFunctions_75 (by decide) hf (fun _ hf => ?_) (fun _ hf => ?_)
          · exact hj82 v4 h _ _ ls rv4 hp (lv_sub hl [0, 1, 3] rfl) hf
          · exact hj78 v4 h _ _ ls rv4 hp (lv_sub hl [0, 1, 3] rfl) hf
    · exact hk90 v3 h _ _ ls rv3 hp (lv_sub hl [0, 1, 2] rfl) hf
def LX12_findFunctions_14 (F : Nat) (u0 : Nat) (u1 : Int) (u2 : Int) (k32 : Int → HF → RO) : Nat → Int → HF → RO
  | 0, _, _ => none
  | n + 1, v3, h =>
    if v3 < u2 then (
      zwr h (u0 + 35) v3 v3 fun h =>
      zlet (wr (v3 + 1)) fun x22 =>
      LX12_findFunctions_14 F u0 u1 u2 k32 n x22 h
    ) else (
      k32 u2 h
    )
set_option maxHeartbeats 4000000 in
set_option maxRecDepth 100000 in
theorem wX12_findFunctions_14 {p : Program} {l : Launch} {e : Env} {s : State} {m : MethodId} {args : Array Value} {below : List Frame} {meth : Method} {c : Code} {Q : State → Prop} {g : zG} {B : Nat} {o : Int × HF} (F : Nat) (cx : Cx p s m args meth c cX12_findFunctions 7 RX12 (some .boolean) g B) (u0 : Nat) (ru0 : kt u0 = 15) (u1 : Int) (ru1 : rng u1) (u2 : Int) (ru2 : rng u2) (k32 : Int → HF → RO) (hk32 : ∀ (x2 : Int) (h : HF) (H : Heap) (locs : List Loc) (ls : Array Slot), rng x2 → Hp g B s h H locs → lv_has ls 7 [(0, .ref (B + u0)), (1, .int (ii u1)), (2, .int (ii x2))] → k32 x2 h = some o → W p l e (rmn 4) s m args below meth c H locs 0 0 Q (F0 m 32 ls [])) : ∀ (n : Nat) (v3 : Int) (h : HF) (H : Heap) (locs : List Loc) (ls : Array Slot), rng v3 → Hp g B s h H locs → lv_has ls 7 [(0, .ref (B + u0)), (1, .int (ii u1)), (2, .int (ii u2)), (3, .int (ii v3))] → LX12_findFunctions_14 F u0 u1 u2 k32 n v3 h = some o → W p l e (rmn 4) s m args below meth c H locs 0 0 Q (F0 m 14 ls []) := by
  intro n
  induction n with
  | zero =>
    intro v3 h H locs ls rv3 hp hl hf
    cases hf
  | succ n ih =>
    intro v3 h H locs ls rv3 hp hl hf
    rw [LX12_findFunctions_14] at hf
    refine lv_iload_n cx.1 cx.2.1 dX12_findFunctions_14 rfl (lv_at hl 3 rfl) ?_
    refine lv_iload_n cx.1 cx.2.1 dX12_findFunctions_15 rfl (lv_at hl 2 rfl) ?_
    refine z_icmp_ge cx rv3 ru2 (tgt := 32) dX12_findFunctions_16 (by decide) hf (fun _ hf => ?_) (fun _ hf => ?_)
    · refine lv_aload_n cx.1 cx.2.1 dX12_findFunctions_19 rfl (lv_at hl 0 rfl) ?_
      refine z_gets cx hp (T := TX12) 12 54 (u0 + 35) rfl zin_12 (by decide) (by decide) ru0 rfl fl_X12_112 dX12_findFunctions_20 ?_
      refine lv_iload_n cx.1 cx.2.1 dX12_findFunctions_23 rfl (lv_at hl 3 rfl) ?_
      refine lv_iload_n cx.1 cx.2.1 dX12_findFunctions_24 rfl (lv_at hl 3 rfl) ?_
      refine z_iast cx hp (zs_12_54 u0 (kt_lt ru0 (by decide)) ru0) rv3 rv3 dX12_findFunctions_25 hf (fun h H locs hp hf => ?_)
      refine z_iinc cx (fun x22 => [(3, .int (ii x22)), (0, .ref (B + u0)), (1, .int (ii u1)), (2, .int (ii u2))]) dX12_findFunctions_26 hl (k := 3) rfl (by decide) (fun _ => rfl) hf (fun x22 rx22 hf ls hl => ?_)
      refine lv_goto (tgt := 14) cx.1 cx.2.1 dX12_findFunctions_29 (by decide) ?_
      exact ih x22 h _ _ ls rx22 hp (lv_sub hl [1, 2, 3, 0] rfl) hf
    · exact hk32 u2 h _ _ ls ru2 hp (lv_sub hl [0, 1, 2] rfl) hf
def fX12_findFunctions (F : Nat) (a0 : Nat) (a1 : Int) (h : HF) : RO :=
  zrd h (a0 + 3) a1 fun x1 =>
  zpf h a0 53 0 fun h =>
  zjn (fun (x32_2 : Int) (h : HF) => (
    zbd (fX12_addFunction F a0 x32_2 h) fun r2 h =>
    zjn (fun (x90_3 : Int) (h : HF) => (
      zjn (fun (x248_3 : Int) (h : HF) => (
        zrz x248_3 h
      )) fun j248 =>
      LX12_findFunctions_93 F a0 a1 j248 F x90_3 0 h
    )) fun j90 =>
    LX12_findFunctions_41 F a0 a1 j90 F r2 0 h
  )) fun j32 =>
  LX12_findFunctions_14 F a0 a1 x1 j32 F 0 h
set_option maxHeartbeats 4000000 in
set_option maxRecDepth 100000 in
theorem mX12_findFunctions (F : Nat) (l : Launch) (g : zG) (B : Nat) (h : HF) (a0 : Nat) (a1 : Int) (ra0 : kt a0 = 15) (ra1 : rng a1) : CTi l g B yX12_findFunctions cX12_findFunctions 7 (some .boolean) 4 [.ref (B + a0), .int (ii a1)] h (fX12_findFunctions F a0 a1 h) := by
  refine z_enterI (by decide) rfl (Nat.le_of_ble_eq_true rfl) ?_
  intro p e s m args below meth c ls o Q cx hp hl hf hQ
  have hl : lv_has ls 7 [(0, .ref (B + a0)), (1, .int (ii a1))] := hl
  unfold fX12_findFunctions at hf
  refine lv_aload_n cx.1 cx.2.1 dX12_findFunctions_0 rfl (lv_at hl 0 rfl) ?_
  refine z_gets cx hp (T := TX12) 12 6 (a0 + 3) rfl zin_12 (by decide) (by decide) ra0 rfl fl_X12_16 dX12_findFunctions_1 ?_
  refine lv_iload_n cx.1 cx.2.1 dX12_findFunctions_4 rfl (lv_at hl 1 rfl) ?_
  refine z_iald cx hp (zs_12_6 a0 (kt_lt ra0 (by decide)) ra0) ra1 dX12_findFunctions_5 hf (fun x1 rx1 hf => ?_)
  refine lv_istore_n (lv' := [(2, .int (ii x1)), (0, .ref (B + a0)), (1, .int (ii a1))]) cx.1 cx.2.1 dX12_findFunctions_6 rfl hl (by decide) rfl (fun ls hl => ?_)
  refine lv_aload_n cx.1 cx.2.1 dX12_findFunctions_7 rfl (lv_at hl 1 rfl) ?_
  refine z_iconst cx dX12_findFunctions_8 ?_
  refine z_puti cx hp (T := TX12) tyX12 tyX12_ok nmX12 12 53 (by decide) rfl zin_12 (by decide) (by decide) ra0 rfl rfl rfl fl_X12_394 dX12_findFunctions_9 hf (fun h H locs hp hf => ?_)
  refine z_iconst cx dX12_findFunctions_12 ?_
  refine lv_istore_n (lv' := [(3, .int (ii 0)), (2, .int (ii x1)), (0, .ref (B + a0)), (1, .int (ii a1))]) cx.1 cx.2.1 dX12_findFunctions_13 rfl hl (by decide) rfl (fun ls hl => ?_)
  refine z_jn hf (fun j => ∀ (x32_2 : Int) (h : HF) (H : Heap) (locs : List Loc) (ls : Array Slot), rng x32_2 → Hp g B s h H locs → lv_has ls 7 [(0, .ref (B + a0)), (1, .int (ii a1)), (2, .int (ii x32_2))] → j x32_2 h = some o → W p l e (rmn 4) s m args below meth c H locs 0 0 Q (F0 m 32 ls [])) ?_ (fun j32 hj32 hf => ?_)
  · intro x32_2 h H locs ls rx32_2 hp hl hf
    refine lv_aload_n cx.1 cx.2.1 dX12_findFunctions_32 rfl (lv_at hl 0 rfl) ?_
    refine lv_iload_n cx.1 cx.2.1 dX12_findFunctions_33 rfl (lv_at hl 2 rfl) ?_
    refine z_ci cx hp (fun o' hx => zrunV (n := 4) (As := [.int (ii x32_2)]) (rest := []) cx hp (mX12_addFunction F l g B h a0 x32_2 ra0 rx32_2 o' hx) 12 ra0 (by decide) rfl vw_X12_addFunction ml_X12_400 (by decide) rfl hl.1 rfl (Nat.le_of_ble_eq_true rfl) dX12_findFunctions_34) hf (fun r2 h H locs rr2 hp hf => ?_)
    refine lv_istore_n (lv' := [(3, .int (ii r2)), (0, .ref (B + a0)), (1, .int (ii a1)), (2, .int (ii x32_2))]) cx.1 cx.2.1 dX12_findFunctions_37 rfl hl (by decide) rfl (fun ls hl => ?_)
    refine z_iconst cx dX12_findFunctions_38 ?_
    refine lv_istore (lv' := [(4, .int (ii 0)), (3, .int (ii r2)), (0, .ref (B + a0)), (1, .int (ii a1)), (2, .int (ii x32_2))]) cx.1 cx.2.1 dX12_findFunctions_39 hl (by decide) rfl (fun ls hl => ?_)
    refine z_jn hf (fun j => ∀ (x90_3 : Int) (h : HF) (H : Heap) (locs : List Loc) (ls : Array Slot), rng x90_3 → Hp g B s h H locs → lv_has ls 7 [(0, .ref (B + a0)), (1, .int (ii a1)), (3, .int (ii x90_3))] → j x90_3 h = some o → W p l e (rmn 4) s m args below meth c H locs 0 0 Q (F0 m 90 ls [])) ?_ (fun j90 hj90 hf => ?_)
    · intro x90_3 h H locs ls rx90_3 hp hl hf
      refine z_iconst cx dX12_findFunctions_90 ?_
      refine lv_istore (lv' := [(4, .int (ii 0)), (0, .ref (B + a0)), (1, .int (ii a1)), (3, .int (ii x90_3))]) cx.1 cx.2.1 dX12_findFunctions_91 hl (by decide) rfl (fun ls hl => ?_)
      refine z_jn hf (fun j => ∀ (x248_3 : Int) (h : HF) (H : Heap) (locs : List Loc) (ls : Array Slot), rng x248_3 → Hp g B s h H locs → lv_has ls 7 [(3, .int (ii x248_3))] → j x248_3 h = some o → W p l e (rmn 4) s m args below meth c H locs 0 0 Q (F0 m 248 ls [])) ?_ (fun j248 hj248 hf => ?_)
      · intro x248_3 h H locs ls rx248_3 hp hl hf
        refine lv_iload_n cx.1 cx.2.1 dX12_findFunctions_248 rfl (lv_at hl 0 rfl) ?_
        rw [hQ]; exact z_zret cx hp dX12_findFunctions_249 hf
      exact wX12_findFunctions_93 F cx a0 ra0 a1 ra1 j248 hj248 F x90_3 0 h _ _ ls rx90_3 (by decide) hp (lv_sub hl [1, 2, 3, 0] rfl) hf
    exact wX12_findFunctions_41 F cx a0 ra0 a1 ra1 j90 hj90 F r2 0 h _ _ ls rr2 (by decide) hp (lv_sub hl [2, 3, 1, 0] rfl) hf
  exact wX12_findFunctions_14 F cx a0 ra0 a1 ra1 x1 rx1 j32 hj32 F 0 h _ _ ls (by decide) hp (lv_sub hl [2, 3, 1, 0] rfl) hf
theorem dX12_function_0 : decode cX12_function 0 = .ok (.aload_n 0, 1) := by decide +kernel
theorem dX12_function_1 : decode cX12_function 1 = .ok (.iconst 0, 1) := by decide +kernel
theorem dX12_function_2 : decode cX12_function 2 = .ok (.putfield 115, 3) := by decide +kernel
theorem dX12_function_5 : decode cX12_function 5 = .ok (.aload_n 0, 1) := by decide +kernel
theorem dX12_function_6 : decode cX12_function 6 = .ok (.iload_n 1, 1) := by decide +kernel
theorem dX12_function_7 : decode cX12_function 7 = .ok (.invokevirtual 168, 3) := by decide +kernel
theorem dX12_function_10 : decode cX12_function 10 = .ok (.istore_n 3, 1) := by decide +kernel
theorem dX12_function_11 : decode cX12_function 11 = .ok (.iload_n 3, 1) := by decide +kernel
theorem dX12_function_12 : decode cX12_function 12 = .ok (.ifCond .eq 5, 3) := by decide +kernel
theorem dX12_function_15 : decode cX12_function 15 = .ok (.iload_n 3, 1) := by decide +kernel
theorem dX12_function_16 : decode cX12_function 16 = .ok (.ireturn, 1) := by decide +kernel
theorem dX12_function_17 : decode cX12_function 17 = .ok (.aload_n 0, 1) := by decide +kernel
theorem dX12_function_18 : decode cX12_function 18 = .ok (.iload_n 1, 1) := by decide +kernel
theorem dX12_function_19 : decode cX12_function 19 = .ok (.invokevirtual 406, 3) := by decide +kernel
theorem dX12_function_22 : decode cX12_function 22 = .ok (.ifCond .ne 6, 3) := by decide +kernel
theorem dX12_function_25 : decode cX12_function 25 = .ok (.bipush (-5), 2) := by decide +kernel
theorem dX12_function_27 : decode cX12_function 27 = .ok (.ireturn, 1) := by decide +kernel
theorem dX12_function_28 : decode cX12_function 28 = .ok (.iload_n 2, 1) := by decide +kernel
theorem dX12_function_29 : decode cX12_function 29 = .ok (.iconst (-1), 1) := by decide +kernel
theorem dX12_function_30 : decode cX12_function 30 = .ok (.if_icmp .lt 11, 3) := by decide +kernel
theorem dX12_function_33 : decode cX12_function 33 = .ok (.iload_n 2, 1) := by decide +kernel
theorem dX12_function_34 : decode cX12_function 34 = .ok (.aload_n 0, 1) := by decide +kernel
theorem dX12_function_35 : decode cX12_function 35 = .ok (.getfield 394, 3) := by decide +kernel
theorem dX12_function_38 : decode cX12_function 38 = .ok (.if_icmp .lt 6, 3) := by decide +kernel
theorem dX12_function_44 : decode cX12_function 44 = .ok (.iload_n 2, 1) := by decide +kernel
theorem dX12_function_45 : decode cX12_function 45 = .ok (.iconst (-1), 1) := by decide +kernel
theorem dX12_function_46 : decode cX12_function 46 = .ok (.if_icmp .ne 8, 3) := by decide +kernel
theorem dX12_function_49 : decode cX12_function 49 = .ok (.aload_n 0, 1) := by decide +kernel
theorem dX12_function_50 : decode cX12_function 50 = .ok (.getfield 394, 3) := by decide +kernel
theorem dX12_function_53 : decode cX12_function 53 = .ok (.ireturn, 1) := by decide +kernel
theorem dX12_function_54 : decode cX12_function 54 = .ok (.iconst 0, 1) := by decide +kernel
theorem dX12_function_55 : decode cX12_function 55 = .ok (.istore 4, 2) := by decide +kernel
theorem dX12_function_57 : decode cX12_function 57 = .ok (.iload 4, 2) := by decide +kernel
theorem dX12_function_59 : decode cX12_function 59 = .ok (.aload_n 0, 1) := by decide +kernel
theorem dX12_function_60 : decode cX12_function 60 = .ok (.getfield 394, 3) := by decide +kernel
theorem dX12_function_63 : decode cX12_function 63 = .ok (.if_icmp .ge 71, 3) := by decide +kernel
theorem dX12_function_66 : decode cX12_function 66 = .ok (.iconst 0, 1) := by decide +kernel
theorem dX12_function_67 : decode cX12_function 67 = .ok (.istore 5, 2) := by decide +kernel
theorem dX12_function_69 : decode cX12_function 69 = .ok (.iconst 0, 1) := by decide +kernel
theorem dX12_function_70 : decode cX12_function 70 = .ok (.istore 6, 2) := by decide +kernel
theorem dX12_function_72 : decode cX12_function 72 = .ok (.iload 6, 2) := by decide +kernel
theorem dX12_function_74 : decode cX12_function 74 = .ok (.aload_n 0, 1) := by decide +kernel
theorem dX12_function_75 : decode cX12_function 75 = .ok (.getfield 394, 3) := by decide +kernel
theorem dX12_function_78 : decode cX12_function 78 = .ok (.if_icmp .ge 36, 3) := by decide +kernel
theorem dX12_function_81 : decode cX12_function 81 = .ok (.iload 5, 2) := by decide +kernel
theorem dX12_function_83 : decode cX12_function 83 = .ok (.aload_n 0, 1) := by decide +kernel
theorem dX12_function_84 : decode cX12_function 84 = .ok (.getfield 109, 3) := by decide +kernel
theorem dX12_function_87 : decode cX12_function 87 = .ok (.iload 6, 2) := by decide +kernel
theorem dX12_function_89 : decode cX12_function 89 = .ok (.iaload, 1) := by decide +kernel
theorem dX12_function_90 : decode cX12_function 90 = .ok (.aload_n 0, 1) := by decide +kernel
theorem dX12_function_91 : decode cX12_function 91 = .ok (.getfield 109, 3) := by decide +kernel
theorem dX12_function_94 : decode cX12_function 94 = .ok (.iload 4, 2) := by decide +kernel
theorem dX12_function_96 : decode cX12_function 96 = .ok (.iaload, 1) := by decide +kernel
theorem dX12_function_97 : decode cX12_function 97 = .ok (.if_icmp .ge 7, 3) := by decide +kernel
theorem dX12_function_100 : decode cX12_function 100 = .ok (.iconst 1, 1) := by decide +kernel
theorem dX12_function_101 : decode cX12_function 101 = .ok (.goto 4, 3) := by decide +kernel
theorem dX12_function_104 : decode cX12_function 104 = .ok (.iconst 0, 1) := by decide +kernel
theorem dX12_function_105 : decode cX12_function 105 = .ok (.iadd, 1) := by decide +kernel
theorem dX12_function_106 : decode cX12_function 106 = .ok (.istore 5, 2) := by decide +kernel
theorem dX12_function_108 : decode cX12_function 108 = .ok (.iinc 6 1, 3) := by decide +kernel
theorem dX12_function_111 : decode cX12_function 111 = .ok (.goto (-39), 3) := by decide +kernel
theorem dX12_function_114 : decode cX12_function 114 = .ok (.iload 5, 2) := by decide +kernel
theorem dX12_function_116 : decode cX12_function 116 = .ok (.iload_n 2, 1) := by decide +kernel
theorem dX12_function_117 : decode cX12_function 117 = .ok (.if_icmp .ne 11, 3) := by decide +kernel
theorem dX12_function_120 : decode cX12_function 120 = .ok (.aload_n 0, 1) := by decide +kernel
theorem dX12_function_121 : decode cX12_function 121 = .ok (.getfield 109, 3) := by decide +kernel
theorem dX12_function_124 : decode cX12_function 124 = .ok (.iload 4, 2) := by decide +kernel
theorem dX12_function_126 : decode cX12_function 126 = .ok (.iaload, 1) := by decide +kernel
theorem dX12_function_127 : decode cX12_function 127 = .ok (.ireturn, 1) := by decide +kernel
theorem dX12_function_128 : decode cX12_function 128 = .ok (.iinc 4 1, 3) := by decide +kernel
theorem dX12_function_131 : decode cX12_function 131 = .ok (.goto (-74), 3) := by decide +kernel
theorem dX12_function_134 : decode cX12_function 134 = .ok (.bipush (-3), 2) := by decide +kernel
theorem dX12_function_136 : decode cX12_function 136 = .ok (.ireturn, 1) := by decide +kernel
theorem dX12_function_41 : decode cX12_function 41 = .ok (.bipush (-3), 2) := by decide +kernel
theorem dX12_function_43 : decode cX12_function 43 = .ok (.ireturn, 1) := by decide +kernel
def LX12_function_72 (F : Nat) (u0 : Nat) (u2 : Int) (u4 : Int) (k114 : Int → Int → HF → RO) : Nat → Int → Int → HF → RO
  | 0, _, _, _ => none
  | n + 1, v5, v6, h =>
    zgf h u0 53 fun x8 =>
    if v6 < x8 then (
      zrd h (u0 + 34) v6 fun x9 =>
      zrd h (u0 + 34) u4 fun x10 =>
      zjn (fun (x105_6 : Int) (y105_0 : Int) (y105_1 : Int) (h : HF) => (
        zlet (wr (y105_1 + y105_0)) fun x11 =>
        zlet (wr (x105_6 + 1)) fun x12 =>
        LX12_function_72 F u0 u2 u4 k114 n x11 x12 h
      )) fun j105 =>
      if x9 < x10 then (
        j105 v6 1 v5 h
      ) else (
        j105 v6 0 v5 h
      )
    ) else (
      k114 u4 v5 h
    )
set_option maxHeartbeats 4000000 in
set_option maxRecDepth 100000 in
theorem wX12_function_72 {p : Program} {l : Launch} {e : Env} {s : State} {m : MethodId} {args : Array Value} {below : List Frame} {meth : Method} {c : Code} {Q : State → Prop} {g : zG} {B : Nat} {o : Int × HF} (F : Nat) (cx : Cx p s m args meth c cX12_function 7 RX12 (some .int) g B) (u0 : Nat) (ru0 : kt u0 = 15) (u2 : Int) (ru2 : rng u2) (u4 : Int) (ru4 : rng u4) (k114 : Int → Int → HF → RO) (hk114 : ∀ (x4 : Int) (x5 : Int) (h : HF) (H : Heap) (locs : List Loc) (ls : Array Slot), rng x4 → rng x5 → Hp g B s h H locs → lv_has ls 7 [(0, .ref (B + u0)), (2, .int (ii u2)), (4, .int (ii x4)), (5, .int (ii x5))] → k114 x4 x5 h = some o → W p l e (rmn 5) s m args below meth c H locs 0 0 Q (F0 m 114 ls [])) : ∀ (n : Nat) (v5 : Int) (v6 : Int) (h : HF) (H : Heap) (locs : List Loc) (ls : Array Slot), rng v5 → rng v6 → Hp g B s h H locs → lv_has ls 7 [(0, .ref (B + u0)), (2, .int (ii u2)), (4, .int (ii u4)), (5, .int (ii v5)), (6, .int (ii v6))] → LX12_function_72 F u0 u2 u4 k114 n v5 v6 h = some o → W p l e (rmn 5) s m args below meth c H locs 0 0 Q (F0 m 72 ls []) := by
  intro n
  induction n with
  | zero =>
    intro v5 v6 h H locs ls rv5 rv6 hp hl hf
    cases hf
  | succ n ih =>
    intro v5 v6 h H locs ls rv5 rv6 hp hl hf
    rw [LX12_function_72] at hf
    refine lv_iload cx.1 cx.2.1 dX12_function_72 (lv_at hl 4 rfl) ?_
    refine lv_aload_n cx.1 cx.2.1 dX12_function_74 rfl (lv_at hl 0 rfl) ?_
    refine z_geti cx hp (T := TX12) 12 53 rfl zin_12 (by decide) (by decide) ru0 rfl fl_X12_394 dX12_function_75 hf (fun x8 rx8 hf => ?_)
    refine z_icmp_ge cx rv6 rx8 (tgt := 114) dX12_function_78 (by decide) hf (fun _ hf => ?_) (fun _ hf => ?_)
    · refine lv_iload cx.1 cx.2.1 dX12_function_81 (lv_at hl 3 rfl) ?_
      refine lv_aload_n cx.1 cx.2.1 dX12_function_83 rfl (lv_at hl 0 rfl) ?_
      refine z_gets cx hp (T := TX12) 12 52 (u0 + 34) rfl zin_12 (by decide) (by decide) ru0 rfl fl_X12_109 dX12_function_84 ?_
      refine lv_iload cx.1 cx.2.1 dX12_function_87 (lv_at hl 4 rfl) ?_
      refine z_iald cx hp (zs_12_52 u0 (kt_lt ru0 (by decide)) ru0) rv6 dX12_function_89 hf (fun x9 rx9 hf => ?_)
      refine lv_aload_n cx.1 cx.2.1 dX12_function_90 rfl (lv_at hl 0 rfl) ?_
      refine z_gets cx hp (T := TX12) 12 52 (u0 + 34) rfl zin_12 (by decide) (by decide) ru0 rfl fl_X12_109 dX12_function_91 ?_
      refine lv_iload cx.1 cx.2.1 dX12_function_94 (lv_at hl 2 rfl) ?_
      refine z_iald cx hp (zs_12_52 u0 (kt_lt ru0 (by decide)) ru0) ru4 dX12_function_96 hf (fun x10 rx10 hf => ?_)
      refine z_jn hf (fun j => ∀ (x105_6 : Int) (y105_0 : Int) (y105_1 : Int) (h : HF) (H : Heap) (locs : List Loc) (ls : Array Slot), rng x105_6 → rng y105_0 → rng y105_1 → Hp g B s h H locs → lv_has ls 7 [(0, .ref (B + u0)), (2, .int (ii u2)), (4, .int (ii u4)), (6, .int (ii x105_6))] → j x105_6 y105_0 y105_1 h = some o → W p l e (rmn 5) s m args below meth c H locs 0 0 Q (F0 m 105 ls [.int (ii y105_0), .int (ii y105_1)])) ?_ (fun j105 hj105 hf => ?_)
      · intro x105_6 y105_0 y105_1 h H locs ls rx105_6 ry105_0 ry105_1 hp hl hf
        refine z_iadd cx dX12_function_105 ?_
        refine z_let (rng_wr _) hf (fun x11 rx11 hf => ?_)
        refine lv_istore (lv' := [(5, .int (ii x11)), (0, .ref (B + u0)), (2, .int (ii u2)), (4, .int (ii u4)), (6, .int (ii x105_6))]) cx.1 cx.2.1 dX12_function_106 hl (by decide) rfl (fun ls hl => ?_)
        refine z_iinc cx (fun x12 => [(6, .int (ii x12)), (5, .int (ii x11)), (0, .ref (B + u0)), (2, .int (ii u2)), (4, .int (ii u4))]) dX12_function_108 hl (k := 4) rfl (by decide) (fun _ => rfl) hf (fun x12 rx12 hf ls hl => ?_)
        refine lv_goto (tgt := 72) cx.1 cx.2.1 dX12_function_111 (by decide) ?_
        exact ih x11 x12 h _ _ ls rx11 rx12 hp (lv_sub hl [2, 3, 4, 1, 0] rfl) hf
      refine z_icmp_ge cx rx9 rx10 (tgt := 104) dX12_function_97 (by decide) hf (fun _ hf => ?_) (fun _ hf => ?_)
      · refine z_iconst cx dX12_function_100 ?_
        refine lv_goto (tgt := 105) cx.1 cx.2.1 dX12_function_101 (by decide) ?_
        exact hj105 v6 1 v5 h _ _ ls rv6 (by decide) rv5 hp (lv_sub hl [0, 1, 2, 4] rfl) hf
      · refine z_iconst cx dX12_function_104 ?_
        exact hj105 v6 0 v5 h _ _ ls rv6 (by decide) rv5 hp (lv_sub hl [0, 1, 2, 4] rfl) hf
    · exact hk114 u4 v5 h _ _ ls ru4 rv5 hp (lv_sub hl [0, 1, 2, 3] rfl) hf
def LX12_function_57 (F : Nat) (u0 : Nat) (u2 : Int) (k134 : HF → RO) (k120 : Int → HF → RO) : Nat → Int → HF → RO
  | 0, _, _ => none
  | n + 1, v4, h =>
    zgf h u0 53 fun x6 =>
    if v4 < x6 then (
      zjn (fun (x114_4 : Int) (x114_5 : Int) (h : HF) => (
        if x114_5 = u2 then (
          k120 x114_4 h
        ) else (
          zlet (wr (x114_4 + 1)) fun x7 =>
          LX12_function_57 F u0 u2 k134 k120 n x7 h
        )
      )) fun j114 =>
      LX12_function_72 F u0 u2 v4 j114 F 0 0 h
    ) else (
      k134  h
    )
set_option maxHeartbeats 4000000 in
set_option maxRecDepth 100000 in
theorem wX12_function_57 {p : Program} {l : Launch} {e : Env} {s : State} {m : MethodId} {args : Array Value} {below : List Frame} {meth : Method} {c : Code} {Q : State → Prop} {g : zG} {B : Nat} {o : Int × HF} (F : Nat) (cx : Cx p s m args meth c cX12_function 7 RX12 (some .int) g B) (u0 : Nat) (ru0 : kt u0 = 15) (u2 : Int) (ru2 : rng u2) (k134 : HF → RO) (hk134 : ∀  (h : HF) (H : Heap) (locs : List Loc) (ls : Array Slot), Hp g B s h H locs → lv_has ls 7 [] → k134  h = some o → W p l e (rmn 5) s m args below meth c H locs 0 0 Q (F0 m 134 ls [])) (k120 : Int → HF → RO) (hk120 : ∀ (x4 : Int) (h : HF) (H : Heap) (locs : List Loc) (ls : Array Slot), rng x4 → Hp g B s h H locs → lv_has ls 7 [(0, .ref (B + u0)), (4, .int (ii x4))] → k120 x4 h = some o → W p l e (rmn 5) s m args below meth c H locs 0 0 Q (F0 m 120 ls [])) : ∀ (n : Nat) (v4 : Int) (h : HF) (H : Heap) (locs : List Loc) (ls : Array Slot), rng v4 → Hp g B s h H locs → lv_has ls 7 [(0, .ref (B + u0)), (2, .int (ii u2)), (4, .int (ii v4))] → LX12_function_57 F u0 u2 k134 k120 n v4 h = some o → W p l e (rmn 5) s m args below meth c H locs 0 0 Q (F0 m 57 ls []) := by
  intro n
  induction n with
  | zero =>
    intro v4 h H locs ls rv4 hp hl hf
    cases hf
  | succ n ih =>
    intro v4 h H locs ls rv4 hp hl hf
    rw [LX12_function_57] at hf
    refine lv_iload cx.1 cx.2.1 dX12_function_57 (lv_at hl 2 rfl) ?_
    refine lv_aload_n cx.1 cx.2.1 dX12_function_59 rfl (lv_at hl 0 rfl) ?_
    refine z_geti cx hp (T := TX12) 12 53 rfl zin_12 (by decide) (by decide) ru0 rfl fl_X12_394 dX12_function_60 hf (fun x6 rx6 hf => ?_)
    refine z_icmp_ge cx rv4 rx6 (tgt := 134) dX12_function_63 (by decide) hf (fun _ hf => ?_) (fun _ hf => ?_)
    · refine z_iconst cx dX12_function_66 ?_
      refine lv_istore (lv' := [(5, .int (ii 0)), (0, .ref (B + u0)), (2, .int (ii u2)), (4, .int (ii v4))]) cx.1 cx.2.1 dX12_function_67 hl (by decide) rfl (fun ls hl => ?_)
      refine z_iconst cx dX12_function_69 ?_
      refine lv_istore (lv' := [(6, .int (ii 0)), (5, .int (ii 0)), (0, .ref (B + u0)), (2, .int (ii u2)), (4, .int (ii v4))]) cx.1 cx.2.1 dX12_function_70 hl (by decide) rfl (fun ls hl => ?_)
      refine z_jn hf (fun j => ∀ (x114_4 : Int) (x114_5 : Int) (h : HF) (H : Heap) (locs : List Loc) (ls : Array Slot), rng x114_4 → rng x114_5 → Hp g B s h H locs → lv_has ls 7 [(0, .ref (B + u0)), (2, .int (ii u2)), (4, .int (ii x114_4)), (5, .int (ii x114_5))] → j x114_4 x114_5 h = some o → W p l e (rmn 5) s m args below meth c H locs 0 0 Q (F0 m 114 ls [])) ?_ (fun j114 hj114 hf => ?_)
      · intro x114_4 x114_5 h H locs ls rx114_4 rx114_5 hp hl hf
        refine lv_iload cx.1 cx.2.1 dX12_function_114 (lv_at hl 3 rfl) ?_
        refine lv_iload_n cx.1 cx.2.1 dX12_function_116 rfl (lv_at hl 1 rfl) ?_
        refine z_icmp_ne cx rx114_5 ru2 (tgt := 128) dX12_function_117 (by decide) hf (fun _ hf => ?_) (fun _ hf => ?_)
        · exact hk120 x114_4 h _ _ ls rx114_4 hp (lv_sub hl [0, 2] rfl) hf
        · refine z_iinc cx (fun x7 => [(4, .int (ii x7)), (0, .ref (B + u0)), (2, .int (ii u2)), (5, .int (ii x114_5))]) dX12_function_128 hl (k := 2) rfl (by decide) (fun _ => rfl) hf (fun x7 rx7 hf ls hl => ?_)
          refine lv_goto (tgt := 57) cx.1 cx.2.1 dX12_function_131 (by decide) ?_
          exact ih x7 h _ _ ls rx7 hp (lv_sub hl [1, 2, 0] rfl) hf
      exact wX12_function_72 F cx u0 ru0 u2 ru2 v4 rv4 j114 hj114 F 0 0 h _ _ ls (by decide) (by decide) hp (lv_sub hl [2, 3, 4, 1, 0] rfl) hf
    · exact hk134  h _ _ ls  hp (lv_sub hl [] rfl) hf
def fX12_function (F : Nat) (a0 : Nat) (a1 : Int) (a2 : Int) (h : HF) : RO :=
  zpf h a0 0 0 fun h =>
  zbd (fX12_refuse F a0 a1 h) fun r1 h =>
  if r1 = 0 then (
    zbd (fX12_findFunctions F a0 a1 h) fun r2 h =>
    if r2 = 0 then (
      some ((-5), h)
    ) else (
      zjn (fun  (h : HF) => (
        some ((-3), h)
      )) fun j41 =>
      if a2 < (-1) then (
        j41  h
      ) else (
        zgf h a0 53 fun x3 =>
        if a2 < x3 then (
          if a2 = (-1) then (
            zgf h a0 53 fun x4 =>
            some (x4, h)
          ) else (
            zjn (fun  (h : HF) => (
              some ((-3), h)
            )) fun j134 =>
            zjn (fun (x120_4 : Int) (h : HF) => (
              zrd h (a0 + 34) x120_4 fun x5 =>
              some (x5, h)
            )) fun j120 =>
            LX12_function_57 F a0 a2 j134 j120 F 0 h
          )
        ) else (
          j41  h
        )
      )
    )
  ) else (
    some (r1, h)
  )
set_option maxHeartbeats 4000000 in
set_option maxRecDepth 100000 in
theorem mX12_function (F : Nat) (l : Launch) (g : zG) (B : Nat) (h : HF) (a0 : Nat) (a1 : Int) (a2 : Int) (ra0 : kt a0 = 15) (ra1 : rng a1) (ra2 : rng a2) : CTi l g B yX12_function cX12_function 7 (some .int) 5 [.ref (B + a0), .int (ii a1), .int (ii a2)] h (fX12_function F a0 a1 a2 h) := by
  refine z_enterI (by decide) rfl (Nat.le_of_ble_eq_true rfl) ?_
  intro p e s m args below meth c ls o Q cx hp hl hf hQ
  have hl : lv_has ls 7 [(0, .ref (B + a0)), (1, .int (ii a1)), (2, .int (ii a2))] := hl
  unfold fX12_function at hf
  refine lv_aload_n cx.1 cx.2.1 dX12_function_0 rfl (lv_at hl 0 rfl) ?_
  refine z_iconst cx dX12_function_1 ?_
  refine z_puti cx hp (T := TX12) tyX12 tyX12_ok nmX12 12 0 (by decide) rfl zin_12 (by decide) (by decide) ra0 rfl rfl rfl fl_X12_115 dX12_function_2 hf (fun h H locs hp hf => ?_)
  refine lv_aload_n cx.1 cx.2.1 dX12_function_5 rfl (lv_at hl 0 rfl) ?_
  refine lv_iload_n cx.1 cx.2.1 dX12_function_6 rfl (lv_at hl 1 rfl) ?_
  refine z_ci cx hp (fun o' hx => zrunV (n := 5) (As := [.int (ii a1)]) (rest := []) cx hp (mX12_refuse F l g B h a0 a1 ra0 ra1 o' hx) 12 ra0 (by decide) rfl vw_X12_refuse ml_X12_168 (by decide) rfl hl.1 rfl (Nat.le_of_ble_eq_true rfl) dX12_function_7) hf (fun r1 h H locs rr1 hp hf => ?_)
  refine lv_istore_n (lv' := [(3, .int (ii r1)), (0, .ref (B + a0)), (1, .int (ii a1)), (2, .int (ii a2))]) cx.1 cx.2.1 dX12_function_10 rfl hl (by decide) rfl (fun ls hl => ?_)
  refine lv_iload_n cx.1 cx.2.1 dX12_function_11 rfl (lv_at hl 0 rfl) ?_
  refine z_if_eq cx rr1 (tgt := 17) dX12_function_12 (by decide) hf (fun _ hf => ?_) (fun _ hf => ?_)
  · refine lv_aload_n cx.1 cx.2.1 dX12_function_17 rfl (lv_at hl 1 rfl) ?_
    refine lv_iload_n cx.1 cx.2.1 dX12_function_18 rfl (lv_at hl 2 rfl) ?_
    refine z_ci cx hp (fun o' hx => zrunV (n := 5) (As := [.int (ii a1)]) (rest := []) cx hp (mX12_findFunctions F l g B h a0 a1 ra0 ra1 o' hx) 12 ra0 (by decide) rfl vw_X12_findFunctions ml_X12_406 (by decide) rfl hl.1 rfl (Nat.le_of_ble_eq_true rfl) dX12_function_19) hf (fun r2 h H locs rr2 hp hf => ?_)
    refine z_if_ne cx rr2 (tgt := 28) dX12_function_22 (by decide) hf (fun _ hf => ?_) (fun _ hf => ?_)
    · refine z_bipush cx (by decide) dX12_function_25 ?_
      rw [hQ]; exact z_iret cx hp (by decide) dX12_function_27 hf
    · refine lv_iload_n cx.1 cx.2.1 dX12_function_28 rfl (lv_at hl 3 rfl) ?_
      refine z_iconst cx dX12_function_29 ?_
      refine z_jn hf (fun j => ∀  (h : HF) (H : Heap) (locs : List Loc) (ls : Array Slot), Hp g B s h H locs → lv_has ls 7 [] → j  h = some o → W p l e (rmn 5) s m args below meth c H locs 0 0 Q (F0 m 41 ls [])) ?_ (fun j41 hj41 hf => ?_)
      · intro  h H locs ls  hp hl hf
        refine z_bipush cx (by decide) dX12_function_41 ?_
        rw [hQ]; exact z_iret cx hp (by decide) dX12_function_43 hf
      refine z_icmp_lt cx ra2 (by decide) (tgt := 41) dX12_function_30 (by decide) hf (fun _ hf => ?_) (fun _ hf => ?_)
      · exact hj41  h _ _ ls  hp (lv_sub hl [] rfl) hf
      · refine lv_iload_n cx.1 cx.2.1 dX12_function_33 rfl (lv_at hl 3 rfl) ?_
        refine lv_aload_n cx.1 cx.2.1 dX12_function_34 rfl (lv_at hl 1 rfl) ?_
        refine z_geti cx hp (T := TX12) 12 53 rfl zin_12 (by decide) (by decide) ra0 rfl fl_X12_394 dX12_function_35 hf (fun x3 rx3 hf => ?_)
        refine z_icmp_lt cx ra2 rx3 (tgt := 44) dX12_function_38 (by decide) hf (fun _ hf => ?_) (fun _ hf => ?_)
        · refine lv_iload_n cx.1 cx.2.1 dX12_function_44 rfl (lv_at hl 3 rfl) ?_
          refine z_iconst cx dX12_function_45 ?_
          refine z_icmp_ne cx ra2 (by decide) (tgt := 54) dX12_function_46 (by decide) hf (fun _ hf => ?_) (fun _ hf => ?_)
          · refine lv_aload_n cx.1 cx.2.1 dX12_function_49 rfl (lv_at hl 1 rfl) ?_
            refine z_geti cx hp (T := TX12) 12 53 rfl zin_12 (by decide) (by decide) ra0 rfl fl_X12_394 dX12_function_50 hf (fun x4 rx4 hf => ?_)
            rw [hQ]; exact z_iret cx hp rx4 dX12_function_53 hf
          · refine z_iconst cx dX12_function_54 ?_
            refine lv_istore (lv' := [(4, .int (ii 0)), (3, .int (ii r1)), (0, .ref (B + a0)), (1, .int (ii a1)), (2, .int (ii a2))]) cx.1 cx.2.1 dX12_function_55 hl (by decide) rfl (fun ls hl => ?_)
            refine z_jn hf (fun j => ∀  (h : HF) (H : Heap) (locs : List Loc) (ls : Array Slot), Hp g B s h H locs → lv_has ls 7 [] → j  h = some o → W p l e (rmn 5) s m args below meth c H locs 0 0 Q (F0 m 134 ls [])) ?_ (fun j134 hj134 hf => ?_)
            · intro  h H locs ls  hp hl hf
              refine z_bipush cx (by decide) dX12_function_134 ?_
              rw [hQ]; exact z_iret cx hp (by decide) dX12_function_136 hf
            refine z_jn hf (fun j => ∀ (x120_4 : Int) (h : HF) (H : Heap) (locs : List Loc) (ls : Array Slot), rng x120_4 → Hp g B s h H locs → lv_has ls 7 [(0, .ref (B + a0)), (4, .int (ii x120_4))] → j x120_4 h = some o → W p l e (rmn 5) s m args below meth c H locs 0 0 Q (F0 m 120 ls [])) ?_ (fun j120 hj120 hf => ?_)
            · intro x120_4 h H locs ls rx120_4 hp hl hf
              refine lv_aload_n cx.1 cx.2.1 dX12_function_120 rfl (lv_at hl 0 rfl) ?_
              refine z_gets cx hp (T := TX12) 12 52 (a0 + 34) rfl zin_12 (by decide) (by decide) ra0 rfl fl_X12_109 dX12_function_121 ?_
              refine lv_iload cx.1 cx.2.1 dX12_function_124 (lv_at hl 1 rfl) ?_
              refine z_iald cx hp (zs_12_52 a0 (kt_lt ra0 (by decide)) ra0) rx120_4 dX12_function_126 hf (fun x5 rx5 hf => ?_)
              rw [hQ]; exact z_iret cx hp rx5 dX12_function_127 hf
            exact wX12_function_57 F cx a0 ra0 a2 ra2 j134 hj134 j120 hj120 F 0 h _ _ ls (by decide) hp (lv_sub hl [2, 4, 0] rfl) hf
        · exact hj41  h _ _ ls  hp (lv_sub hl [] rfl) hf
  · refine lv_iload_n cx.1 cx.2.1 dX12_function_15 rfl (lv_at hl 0 rfl) ?_
    rw [hQ]; exact z_iret cx hp rr1 dX12_function_16 hf
theorem dX12_refuseModels_0 : decode cX12_refuseModels 0 = .ok (.aload_n 0, 1) := by decide +kernel
theorem dX12_refuseModels_1 : decode cX12_refuseModels 1 = .ok (.getfield 79, 3) := by decide +kernel
theorem dX12_refuseModels_4 : decode cX12_refuseModels 4 = .ok (.iload_n 3, 1) := by decide +kernel
theorem dX12_refuseModels_5 : decode cX12_refuseModels 5 = .ok (.iaload, 1) := by decide +kernel
theorem dX12_refuseModels_6 : decode cX12_refuseModels 6 = .ok (.ifCond .ne 6, 3) := by decide +kernel
theorem dX12_refuseModels_9 : decode cX12_refuseModels 9 = .ok (.bipush (-2), 2) := by decide +kernel
theorem dX12_refuseModels_11 : decode cX12_refuseModels 11 = .ok (.ireturn, 1) := by decide +kernel
theorem dX12_refuseModels_12 : decode cX12_refuseModels 12 = .ok (.iload_n 1, 1) := by decide +kernel
theorem dX12_refuseModels_13 : decode cX12_refuseModels 13 = .ok (.iconst 1, 1) := by decide +kernel
theorem dX12_refuseModels_14 : decode cX12_refuseModels 14 = .ok (.if_icmp .lt 17, 3) := by decide +kernel
theorem dX12_refuseModels_17 : decode cX12_refuseModels 17 = .ok (.iload_n 1, 1) := by decide +kernel
theorem dX12_refuseModels_18 : decode cX12_refuseModels 18 = .ok (.bipush 7, 2) := by decide +kernel
theorem dX12_refuseModels_20 : decode cX12_refuseModels 20 = .ok (.if_icmp .gt 11, 3) := by decide +kernel
theorem dX12_refuseModels_23 : decode cX12_refuseModels 23 = .ok (.aload_n 0, 1) := by decide +kernel
theorem dX12_refuseModels_24 : decode cX12_refuseModels 24 = .ok (.iload_n 2, 1) := by decide +kernel
theorem dX12_refuseModels_25 : decode cX12_refuseModels 25 = .ok (.invokevirtual 150, 3) := by decide +kernel
theorem dX12_refuseModels_28 : decode cX12_refuseModels 28 = .ok (.ifCond .ne 6, 3) := by decide +kernel
theorem dX12_refuseModels_34 : decode cX12_refuseModels 34 = .ok (.aload_n 0, 1) := by decide +kernel
theorem dX12_refuseModels_35 : decode cX12_refuseModels 35 = .ok (.bipush 9, 2) := by decide +kernel
theorem dX12_refuseModels_37 : decode cX12_refuseModels 37 = .ok (.iload_n 1, 1) := by decide +kernel
theorem dX12_refuseModels_38 : decode cX12_refuseModels 38 = .ok (.iload_n 2, 1) := by decide +kernel
theorem dX12_refuseModels_39 : decode cX12_refuseModels 39 = .ok (.invokevirtual 156, 3) := by decide +kernel
theorem dX12_refuseModels_42 : decode cX12_refuseModels 42 = .ok (.aload_n 0, 1) := by decide +kernel
theorem dX12_refuseModels_43 : decode cX12_refuseModels 43 = .ok (.bipush 9, 2) := by decide +kernel
theorem dX12_refuseModels_45 : decode cX12_refuseModels 45 = .ok (.iload_n 3, 1) := by decide +kernel
theorem dX12_refuseModels_46 : decode cX12_refuseModels 46 = .ok (.invokevirtual 286, 3) := by decide +kernel
theorem dX12_refuseModels_49 : decode cX12_refuseModels 49 = .ok (.ifCond .ne 6, 3) := by decide +kernel
theorem dX12_refuseModels_52 : decode cX12_refuseModels 52 = .ok (.bipush (-4), 2) := by decide +kernel
theorem dX12_refuseModels_54 : decode cX12_refuseModels 54 = .ok (.ireturn, 1) := by decide +kernel
theorem dX12_refuseModels_55 : decode cX12_refuseModels 55 = .ok (.lconst 1, 1) := by decide +kernel
theorem dX12_refuseModels_56 : decode cX12_refuseModels 56 = .ok (.lstore 4, 2) := by decide +kernel
theorem dX12_refuseModels_58 : decode cX12_refuseModels 58 = .ok (.iconst 0, 1) := by decide +kernel
theorem dX12_refuseModels_59 : decode cX12_refuseModels 59 = .ok (.istore 6, 2) := by decide +kernel
theorem dX12_refuseModels_61 : decode cX12_refuseModels 61 = .ok (.iload 6, 2) := by decide +kernel
theorem dX12_refuseModels_63 : decode cX12_refuseModels 63 = .ok (.aload_n 0, 1) := by decide +kernel
theorem dX12_refuseModels_64 : decode cX12_refuseModels 64 = .ok (.bipush 9, 2) := by decide +kernel
theorem dX12_refuseModels_66 : decode cX12_refuseModels 66 = .ok (.invokevirtual 160, 3) := by decide +kernel
theorem dX12_refuseModels_69 : decode cX12_refuseModels 69 = .ok (.if_icmp .ge 30, 3) := by decide +kernel
theorem dX12_refuseModels_72 : decode cX12_refuseModels 72 = .ok (.lload 4, 2) := by decide +kernel
theorem dX12_refuseModels_74 : decode cX12_refuseModels 74 = .ok (.ldc2_w 409, 3) := by decide +kernel
theorem dX12_refuseModels_77 : decode cX12_refuseModels 77 = .ok (.lcmp, 1) := by decide +kernel
theorem dX12_refuseModels_78 : decode cX12_refuseModels 78 = .ok (.ifCond .le 8, 3) := by decide +kernel
theorem dX12_refuseModels_81 : decode cX12_refuseModels 81 = .ok (.lload 4, 2) := by decide +kernel
theorem dX12_refuseModels_83 : decode cX12_refuseModels 83 = .ok (.goto 8, 3) := by decide +kernel
theorem dX12_refuseModels_86 : decode cX12_refuseModels 86 = .ok (.lload 4, 2) := by decide +kernel
theorem dX12_refuseModels_88 : decode cX12_refuseModels 88 = .ok (.iload_n 1, 1) := by decide +kernel
theorem dX12_refuseModels_89 : decode cX12_refuseModels 89 = .ok (.i2l, 1) := by decide +kernel
theorem dX12_refuseModels_90 : decode cX12_refuseModels 90 = .ok (.lmul, 1) := by decide +kernel
theorem dX12_refuseModels_91 : decode cX12_refuseModels 91 = .ok (.lstore 4, 2) := by decide +kernel
theorem dX12_refuseModels_93 : decode cX12_refuseModels 93 = .ok (.iinc 6 1, 3) := by decide +kernel
theorem dX12_refuseModels_96 : decode cX12_refuseModels 96 = .ok (.goto (-35), 3) := by decide +kernel
theorem dX12_refuseModels_99 : decode cX12_refuseModels 99 = .ok (.lload 4, 2) := by decide +kernel
theorem dX12_refuseModels_101 : decode cX12_refuseModels 101 = .ok (.ldc2_w 409, 3) := by decide +kernel
theorem dX12_refuseModels_104 : decode cX12_refuseModels 104 = .ok (.lcmp, 1) := by decide +kernel
theorem dX12_refuseModels_105 : decode cX12_refuseModels 105 = .ok (.ifCond .le 8, 3) := by decide +kernel
theorem dX12_refuseModels_108 : decode cX12_refuseModels 108 = .ok (.bipush (-5), 2) := by decide +kernel
theorem dX12_refuseModels_110 : decode cX12_refuseModels 110 = .ok (.goto 4, 3) := by decide +kernel
theorem dX12_refuseModels_113 : decode cX12_refuseModels 113 = .ok (.iconst 0, 1) := by decide +kernel
theorem dX12_refuseModels_114 : decode cX12_refuseModels 114 = .ok (.ireturn, 1) := by decide +kernel
theorem dX12_refuseModels_31 : decode cX12_refuseModels 31 = .ok (.bipush (-3), 2) := by decide +kernel
theorem dX12_refuseModels_33 : decode cX12_refuseModels 33 = .ok (.ireturn, 1) := by decide +kernel
def LX12_refuseModels_61 (F : Nat) (u0 : Nat) (u1 : Int) (k99 : Int → HF → RO) : Nat → Int → Int → HF → RO
  | 0, _, _, _ => none
  | n + 1, v4, v6, h =>
    zbd (fX12_cellsOf F u0 9 h) fun r5 h =>
    if v6 < r5 then (
      zjn (fun (x91_6 : Int) (y91_0 : Int) (h : HF) => (
        zlet (wr (x91_6 + 1)) fun x6 =>
        LX12_refuseModels_61 F u0 u1 k99 n y91_0 x6 h
      )) fun j91 =>
      if 0 < zcmp v4 60000 then (
        j91 v6 v4 h
      ) else (
        j91 v6 (wl (v4 * u1)) h
      )
    ) else (
      k99 v4 h
    )
set_option maxHeartbeats 4000000 in
set_option maxRecDepth 100000 in
theorem wX12_refuseModels_61 {p : Program} {l : Launch} {e : Env} {s : State} {m : MethodId} {args : Array Value} {below : List Frame} {meth : Method} {c : Code} {Q : State → Prop} {g : zG} {B : Nat} {o : Int × HF} (F : Nat) (cx : Cx p s m args meth c cX12_refuseModels 7 RX12 (some .int) g B) (u0 : Nat) (ru0 : kt u0 = 15) (u1 : Int) (ru1 : rng u1) (k99 : Int → HF → RO) (hk99 : ∀ (x4 : Int) (h : HF) (H : Heap) (locs : List Loc) (ls : Array Slot), rng64 x4 → Hp g B s h H locs → lv_has ls 7 [(4, .long (ll x4))] → k99 x4 h = some o → W p l e (rmn 2) s m args below meth c H locs 0 0 Q (F0 m 99 ls [])) : ∀ (n : Nat) (v4 : Int) (v6 : Int) (h : HF) (H : Heap) (locs : List Loc) (ls : Array Slot), rng64 v4 → rng v6 → Hp g B s h H locs → lv_has ls 7 [(0, .ref (B + u0)), (1, .int (ii u1)), (4, .long (ll v4)), (6, .int (ii v6))] → LX12_refuseModels_61 F u0 u1 k99 n v4 v6 h = some o → W p l e (rmn 2) s m args below meth c H locs 0 0 Q (F0 m 61 ls []) := by
  intro n
  induction n with
  | zero =>
    intro v4 v6 h H locs ls rv4 rv6 hp hl hf
    cases hf
  | succ n ih =>
    intro v4 v6 h H locs ls rv4 rv6 hp hl hf
    rw [LX12_refuseModels_61] at hf
    refine lv_iload cx.1 cx.2.1 dX12_refuseModels_61 (lv_at hl 3 rfl) ?_
    refine lv_aload_n cx.1 cx.2.1 dX12_refuseModels_63 rfl (lv_at hl 0 rfl) ?_
    refine z_bipush cx (by decide) dX12_refuseModels_64 ?_
    refine z_ci cx hp (fun o' hx => zrunV (n := 2) (As := [.int (ii 9)]) (rest := [.int (ii v6)]) cx hp (mX12_cellsOf F l g B h u0 9 ru0 (by decide) o' hx) 12 ru0 (by decide) rfl vw_X12_cellsOf ml_X12_160 (by decide) rfl hl.1 rfl (Nat.le_of_ble_eq_true rfl) dX12_refuseModels_66) hf (fun r5 h H locs rr5 hp hf => ?_)
    refine z_icmp_ge cx rv6 rr5 (tgt := 99) dX12_refuseModels_69 (by decide) hf (fun _ hf => ?_) (fun _ hf => ?_)
    · refine lv_lload cx.1 cx.2.1 dX12_refuseModels_72 (lv_at hl 2 rfl) ?_
      refine lv_ldc2 (v := ll 60000) cx.1 cx.2.1 cx.2.2.2.1 (cx.2.2.2.2.1 _ (aw_m8 15 (by decide +kernel) rfl)) dX12_refuseModels_74 ?_
      refine z_lcmp cx rv4 (by decide) dX12_refuseModels_77 ?_
      refine z_jn hf (fun j => ∀ (x91_6 : Int) (y91_0 : Int) (h : HF) (H : Heap) (locs : List Loc) (ls : Array Slot), rng x91_6 → rng64 y91_0 → Hp g B s h H locs → lv_has ls 7 [(0, .ref (B + u0)), (1, .int (ii u1)), (6, .int (ii x91_6))] → j x91_6 y91_0 h = some o → W p l e (rmn 2) s m args below meth c H locs 0 0 Q (F0 m 91 ls [.long (ll y91_0)])) ?_ (fun j91 hj91 hf => ?_)
      · intro x91_6 y91_0 h H locs ls rx91_6 ry91_0 hp hl hf
        refine lv_lstore (lv' := [(4, .long (ll y91_0)), (0, .ref (B + u0)), (1, .int (ii u1)), (6, .int (ii x91_6))]) cx.1 cx.2.1 dX12_refuseModels_91 hl (by decide) rfl (fun ls hl => ?_)
        refine z_iinc cx (fun x6 => [(6, .int (ii x6)), (4, .long (ll y91_0)), (0, .ref (B + u0)), (1, .int (ii u1))]) dX12_refuseModels_93 hl (k := 3) rfl (by decide) (fun _ => rfl) hf (fun x6 rx6 hf ls hl => ?_)
        refine lv_goto (tgt := 61) cx.1 cx.2.1 dX12_refuseModels_96 (by decide) ?_
        exact ih y91_0 x6 h _ _ ls ry91_0 rx6 hp (lv_sub hl [2, 3, 1, 0] rfl) hf
      refine z_if_le cx (rng_cmp _ _) (tgt := 86) dX12_refuseModels_78 (by decide) hf (fun _ hf => ?_) (fun _ hf => ?_)
      · refine lv_lload cx.1 cx.2.1 dX12_refuseModels_81 (lv_at hl 2 rfl) ?_
        refine lv_goto (tgt := 91) cx.1 cx.2.1 dX12_refuseModels_83 (by decide) ?_
        exact hj91 v6 v4 h _ _ ls rv6 rv4 hp (lv_sub hl [0, 1, 3] rfl) hf
      · refine lv_lload cx.1 cx.2.1 dX12_refuseModels_86 (lv_at hl 2 rfl) ?_
        refine lv_iload_n cx.1 cx.2.1 dX12_refuseModels_88 rfl (lv_at hl 1 rfl) ?_
        refine z_i2l cx ru1 dX12_refuseModels_89 ?_
        refine z_lmul cx dX12_refuseModels_90 ?_
        exact hj91 v6 (wl (v4 * u1)) h _ _ ls rv6 (rng_wl _) hp (lv_sub hl [0, 1, 3] rfl) hf
    · exact hk99 v4 h _ _ ls rv4 hp (lv_sub hl [2] rfl) hf
def fX12_refuseModels (F : Nat) (a0 : Nat) (a1 : Int) (a2 : Int) (a3 : Int) (h : HF) : RO :=
  zrd h (a0 + 24) a3 fun x1 =>
  if x1 = 0 then (
    some ((-2), h)
  ) else (
    zjn (fun  (h : HF) => (
      some ((-3), h)
    )) fun j31 =>
    if a1 < 1 then (
      j31  h
    ) else (
      if 7 < a1 then (
        j31  h
      ) else (
        zbd (fX12_areArities F a0 a2 h) fun r2 h =>
        if r2 = 0 then (
          j31  h
        ) else (
          zbd (fX12_blank F a0 9 a1 a2 h) fun _ h =>
          zbd (fX12_fits F a0 9 a3 h) fun r4 h =>
          if r4 = 0 then (
            some ((-4), h)
          ) else (
            zjn (fun (x99_4 : Int) (h : HF) => (
              zjn (fun (y114_0 : Int) (h : HF) => (
                some (y114_0, h)
              )) fun j114 =>
              if 0 < zcmp x99_4 60000 then (
                j114 (-5) h
              ) else (
                j114 0 h
              )
            )) fun j99 =>
            LX12_refuseModels_61 F a0 a1 j99 F 1 0 h
          )
        )
      )
    )
  )
set_option maxHeartbeats 4000000 in
set_option maxRecDepth 100000 in
theorem mX12_refuseModels (F : Nat) (l : Launch) (g : zG) (B : Nat) (h : HF) (a0 : Nat) (a1 : Int) (a2 : Int) (a3 : Int) (ra0 : kt a0 = 15) (ra1 : rng a1) (ra2 : rng a2) (ra3 : rng a3) : CTi l g B yX12_refuseModels cX12_refuseModels 7 (some .int) 2 [.ref (B + a0), .int (ii a1), .int (ii a2), .int (ii a3)] h (fX12_refuseModels F a0 a1 a2 a3 h) := by
  refine z_enterI (by decide) rfl (Nat.le_of_ble_eq_true rfl) ?_
  intro p e s m args below meth c ls o Q cx hp hl hf hQ
  have hl : lv_has ls 7 [(0, .ref (B + a0)), (1, .int (ii a1)), (2, .int (ii a2)), (3, .int (ii a3))] := hl
  unfold fX12_refuseModels at hf
  refine lv_aload_n cx.1 cx.2.1 dX12_refuseModels_0 rfl (lv_at hl 0 rfl) ?_
  refine z_gets cx hp (T := TX12) 12 30 (a0 + 24) rfl zin_12 (by decide) (by decide) ra0 rfl fl_X12_79 dX12_refuseModels_1 ?_
  refine lv_iload_n cx.1 cx.2.1 dX12_refuseModels_4 rfl (lv_at hl 3 rfl) ?_
  refine z_iald cx hp (zs_12_30 a0 (kt_lt ra0 (by decide)) ra0) ra3 dX12_refuseModels_5 hf (fun x1 rx1 hf => ?_)
  refine z_if_ne cx rx1 (tgt := 12) dX12_refuseModels_6 (by decide) hf (fun _ hf => ?_) (fun _ hf => ?_)
  · refine z_bipush cx (by decide) dX12_refuseModels_9 ?_
    rw [hQ]; exact z_iret cx hp (by decide) dX12_refuseModels_11 hf
  · refine lv_iload_n cx.1 cx.2.1 dX12_refuseModels_12 rfl (lv_at hl 1 rfl) ?_
    refine z_iconst cx dX12_refuseModels_13 ?_
    refine z_jn hf (fun j => ∀  (h : HF) (H : Heap) (locs : List Loc) (ls : Array Slot), Hp g B s h H locs → lv_has ls 7 [] → j  h = some o → W p l e (rmn 2) s m args below meth c H locs 0 0 Q (F0 m 31 ls [])) ?_ (fun j31 hj31 hf => ?_)
    · intro  h H locs ls  hp hl hf
      refine z_bipush cx (by decide) dX12_refuseModels_31 ?_
      rw [hQ]; exact z_iret cx hp (by decide) dX12_refuseModels_33 hf
    refine z_icmp_lt cx ra1 (by decide) (tgt := 31) dX12_refuseModels_14 (by decide) hf (fun _ hf => ?_) (fun _ hf => ?_)
    · exact hj31  h _ _ ls  hp (lv_sub hl [] rfl) hf
    · refine lv_iload_n cx.1 cx.2.1 dX12_refuseModels_17 rfl (lv_at hl 1 rfl) ?_
      refine z_bipush cx (by decide) dX12_refuseModels_18 ?_
      refine z_icmp_gt cx ra1 (by decide) (tgt := 31) dX12_refuseModels_20 (by decide) hf (fun _ hf => ?_) (fun _ hf => ?_)
      · exact hj31  h _ _ ls  hp (lv_sub hl [] rfl) hf
      · refine lv_aload_n cx.1 cx.2.1 dX12_refuseModels_23 rfl (lv_at hl 0 rfl) ?_
        refine lv_iload_n cx.1 cx.2.1 dX12_refuseModels_24 rfl (lv_at hl 2 rfl) ?_
        refine z_ci cx hp (fun o' hx => zrunV (n := 2) (As := [.int (ii a2)]) (rest := []) cx hp (mX12_areArities F l g B h a0 a2 ra0 ra2 o' hx) 12 ra0 (by decide) rfl vw_X12_areArities ml_X12_150 (by decide) rfl hl.1 rfl (Nat.le_of_ble_eq_true rfl) dX12_refuseModels_25) hf (fun r2 h H locs rr2 hp hf => ?_)
        refine z_if_ne cx rr2 (tgt := 34) dX12_refuseModels_28 (by decide) hf (fun _ hf => ?_) (fun _ hf => ?_)
        · exact hj31  h _ _ ls  hp (lv_sub hl [] rfl) hf
        · refine lv_aload_n cx.1 cx.2.1 dX12_refuseModels_34 rfl (lv_at hl 0 rfl) ?_
          refine z_bipush cx (by decide) dX12_refuseModels_35 ?_
          refine lv_iload_n cx.1 cx.2.1 dX12_refuseModels_37 rfl (lv_at hl 1 rfl) ?_
          refine lv_iload_n cx.1 cx.2.1 dX12_refuseModels_38 rfl (lv_at hl 2 rfl) ?_
          refine z_cv cx hp (fun o' hx => zrunV (n := 2) (As := [.int (ii 9), .int (ii a1), .int (ii a2)]) (rest := []) cx hp (mX12_blank F l g B h a0 9 a1 a2 ra0 (by decide) ra1 ra2 o' hx) 12 ra0 (by decide) rfl vw_X12_blank ml_X12_156 (by decide) rfl hl.1 rfl (Nat.le_of_ble_eq_true rfl) dX12_refuseModels_39) hf (fun _ h H locs hp hf => ?_)
          refine lv_aload_n cx.1 cx.2.1 dX12_refuseModels_42 rfl (lv_at hl 0 rfl) ?_
          refine z_bipush cx (by decide) dX12_refuseModels_43 ?_
          refine lv_iload_n cx.1 cx.2.1 dX12_refuseModels_45 rfl (lv_at hl 3 rfl) ?_
          refine z_ci cx hp (fun o' hx => zrunV (n := 2) (As := [.int (ii 9), .int (ii a3)]) (rest := []) cx hp (mX12_fits F l g B h a0 9 a3 ra0 (by decide) ra3 o' hx) 12 ra0 (by decide) rfl vw_X12_fits ml_X12_286 (by decide) rfl hl.1 rfl (Nat.le_of_ble_eq_true rfl) dX12_refuseModels_46) hf (fun r4 h H locs rr4 hp hf => ?_)
          refine z_if_ne cx rr4 (tgt := 55) dX12_refuseModels_49 (by decide) hf (fun _ hf => ?_) (fun _ hf => ?_)
          · refine z_bipush cx (by decide) dX12_refuseModels_52 ?_
            rw [hQ]; exact z_iret cx hp (by decide) dX12_refuseModels_54 hf
          · refine lv_lconst (v := ll 1) cx.1 cx.2.1 dX12_refuseModels_55 (by decide) ?_
            refine lv_lstore (lv' := [(4, .long (ll 1)), (0, .ref (B + a0)), (1, .int (ii a1)), (2, .int (ii a2)), (3, .int (ii a3))]) cx.1 cx.2.1 dX12_refuseModels_56 hl (by decide) rfl (fun ls hl => ?_)
            refine z_iconst cx dX12_refuseModels_58 ?_
            refine lv_istore (lv' := [(6, .int (ii 0)), (4, .long (ll 1)), (0, .ref (B + a0)), (1, .int (ii a1)), (2, .int (ii a2)), (3, .int (ii a3))]) cx.1 cx.2.1 dX12_refuseModels_59 hl (by decide) rfl (fun ls hl => ?_)
            refine z_jn hf (fun j => ∀ (x99_4 : Int) (h : HF) (H : Heap) (locs : List Loc) (ls : Array Slot), rng64 x99_4 → Hp g B s h H locs → lv_has ls 7 [(4, .long (ll x99_4))] → j x99_4 h = some o → W p l e (rmn 2) s m args below meth c H locs 0 0 Q (F0 m 99 ls [])) ?_ (fun j99 hj99 hf => ?_)
            · intro x99_4 h H locs ls rx99_4 hp hl hf
              refine lv_lload cx.1 cx.2.1 dX12_refuseModels_99 (lv_at hl 0 rfl) ?_
              refine lv_ldc2 (v := ll 60000) cx.1 cx.2.1 cx.2.2.2.1 (cx.2.2.2.2.1 _ (aw_m8 15 (by decide +kernel) rfl)) dX12_refuseModels_101 ?_
              refine z_lcmp cx rx99_4 (by decide) dX12_refuseModels_104 ?_
              refine z_jn hf (fun j => ∀ (y114_0 : Int) (h : HF) (H : Heap) (locs : List Loc) (ls : Array Slot), rng y114_0 → Hp g B s h H locs → lv_has ls 7 [] → j y114_0 h = some o → W p l e (rmn 2) s m args below meth c H locs 0 0 Q (F0 m 114 ls [.int (ii y114_0)])) ?_ (fun j114 hj114 hf => ?_)
              · intro y114_0 h H locs ls ry114_0 hp hl hf
                rw [hQ]; exact z_iret cx hp ry114_0 dX12_refuseModels_114 hf
              refine z_if_le cx (rng_cmp _ _) (tgt := 113) dX12_refuseModels_105 (by decide) hf (fun _ hf => ?_) (fun _ hf => ?_)
              · refine z_bipush cx (by decide) dX12_refuseModels_108 ?_
                refine lv_goto (tgt := 114) cx.1 cx.2.1 dX12_refuseModels_110 (by decide) ?_
                exact hj114 (-5) h _ _ ls (by decide) hp (lv_sub hl [] rfl) hf
              · refine z_iconst cx dX12_refuseModels_113 ?_
                exact hj114 0 h _ _ ls (by decide) hp (lv_sub hl [] rfl) hf
            exact wX12_refuseModels_61 F cx a0 ra0 a1 ra1 j99 hj99 F 1 0 h _ _ ls (by decide) (by decide) hp (lv_sub hl [2, 3, 1, 0] rfl) hf
theorem dX12_nextTable_0 : decode cX12_nextTable 0 = .ok (.aload_n 0, 1) := by decide +kernel
theorem dX12_nextTable_1 : decode cX12_nextTable 1 = .ok (.bipush 9, 2) := by decide +kernel
theorem dX12_nextTable_3 : decode cX12_nextTable 3 = .ok (.invokevirtual 160, 3) := by decide +kernel
theorem dX12_nextTable_6 : decode cX12_nextTable 6 = .ok (.iconst 1, 1) := by decide +kernel
theorem dX12_nextTable_7 : decode cX12_nextTable 7 = .ok (.isub, 1) := by decide +kernel
theorem dX12_nextTable_8 : decode cX12_nextTable 8 = .ok (.istore_n 1, 1) := by decide +kernel
theorem dX12_nextTable_9 : decode cX12_nextTable 9 = .ok (.iload_n 1, 1) := by decide +kernel
theorem dX12_nextTable_10 : decode cX12_nextTable 10 = .ok (.ifCond .lt 46, 3) := by decide +kernel
theorem dX12_nextTable_13 : decode cX12_nextTable 13 = .ok (.aload_n 0, 1) := by decide +kernel
theorem dX12_nextTable_14 : decode cX12_nextTable 14 = .ok (.getfield 25, 3) := by decide +kernel
theorem dX12_nextTable_17 : decode cX12_nextTable 17 = .ok (.aload_n 0, 1) := by decide +kernel
theorem dX12_nextTable_18 : decode cX12_nextTable 18 = .ok (.bipush 9, 2) := by decide +kernel
theorem dX12_nextTable_20 : decode cX12_nextTable 20 = .ok (.iload_n 1, 1) := by decide +kernel
theorem dX12_nextTable_21 : decode cX12_nextTable 21 = .ok (.invokevirtual 184, 3) := by decide +kernel
theorem dX12_nextTable_24 : decode cX12_nextTable 24 = .ok (.iaload, 1) := by decide +kernel
theorem dX12_nextTable_25 : decode cX12_nextTable 25 = .ok (.aload_n 0, 1) := by decide +kernel
theorem dX12_nextTable_26 : decode cX12_nextTable 26 = .ok (.getfield 16, 3) := by decide +kernel
theorem dX12_nextTable_29 : decode cX12_nextTable 29 = .ok (.bipush 9, 2) := by decide +kernel
theorem dX12_nextTable_31 : decode cX12_nextTable 31 = .ok (.iaload, 1) := by decide +kernel
theorem dX12_nextTable_32 : decode cX12_nextTable 32 = .ok (.iconst 1, 1) := by decide +kernel
theorem dX12_nextTable_33 : decode cX12_nextTable 33 = .ok (.isub, 1) := by decide +kernel
theorem dX12_nextTable_34 : decode cX12_nextTable 34 = .ok (.if_icmp .ne 22, 3) := by decide +kernel
theorem dX12_nextTable_37 : decode cX12_nextTable 37 = .ok (.aload_n 0, 1) := by decide +kernel
theorem dX12_nextTable_38 : decode cX12_nextTable 38 = .ok (.getfield 25, 3) := by decide +kernel
theorem dX12_nextTable_41 : decode cX12_nextTable 41 = .ok (.aload_n 0, 1) := by decide +kernel
theorem dX12_nextTable_42 : decode cX12_nextTable 42 = .ok (.bipush 9, 2) := by decide +kernel
theorem dX12_nextTable_44 : decode cX12_nextTable 44 = .ok (.iload_n 1, 1) := by decide +kernel
theorem dX12_nextTable_45 : decode cX12_nextTable 45 = .ok (.invokevirtual 184, 3) := by decide +kernel
theorem dX12_nextTable_48 : decode cX12_nextTable 48 = .ok (.iconst 0, 1) := by decide +kernel
theorem dX12_nextTable_49 : decode cX12_nextTable 49 = .ok (.iastore, 1) := by decide +kernel
theorem dX12_nextTable_50 : decode cX12_nextTable 50 = .ok (.iinc 1 (-1), 3) := by decide +kernel
theorem dX12_nextTable_53 : decode cX12_nextTable 53 = .ok (.goto (-44), 3) := by decide +kernel
theorem dX12_nextTable_56 : decode cX12_nextTable 56 = .ok (.iload_n 1, 1) := by decide +kernel
theorem dX12_nextTable_57 : decode cX12_nextTable 57 = .ok (.ifCond .ge 5, 3) := by decide +kernel
theorem dX12_nextTable_60 : decode cX12_nextTable 60 = .ok (.iconst 0, 1) := by decide +kernel
theorem dX12_nextTable_61 : decode cX12_nextTable 61 = .ok (.ireturn, 1) := by decide +kernel
theorem dX12_nextTable_62 : decode cX12_nextTable 62 = .ok (.aload_n 0, 1) := by decide +kernel
theorem dX12_nextTable_63 : decode cX12_nextTable 63 = .ok (.getfield 25, 3) := by decide +kernel
theorem dX12_nextTable_66 : decode cX12_nextTable 66 = .ok (.aload_n 0, 1) := by decide +kernel
theorem dX12_nextTable_67 : decode cX12_nextTable 67 = .ok (.bipush 9, 2) := by decide +kernel
theorem dX12_nextTable_69 : decode cX12_nextTable 69 = .ok (.iload_n 1, 1) := by decide +kernel
theorem dX12_nextTable_70 : decode cX12_nextTable 70 = .ok (.invokevirtual 184, 3) := by decide +kernel
theorem dX12_nextTable_73 : decode cX12_nextTable 73 = .ok (.dup2, 1) := by decide +kernel
theorem dX12_nextTable_74 : decode cX12_nextTable 74 = .ok (.iaload, 1) := by decide +kernel
theorem dX12_nextTable_75 : decode cX12_nextTable 75 = .ok (.iconst 1, 1) := by decide +kernel
theorem dX12_nextTable_76 : decode cX12_nextTable 76 = .ok (.iadd, 1) := by decide +kernel
theorem dX12_nextTable_77 : decode cX12_nextTable 77 = .ok (.iastore, 1) := by decide +kernel
theorem dX12_nextTable_78 : decode cX12_nextTable 78 = .ok (.iconst 1, 1) := by decide +kernel
theorem dX12_nextTable_79 : decode cX12_nextTable 79 = .ok (.ireturn, 1) := by decide +kernel
def LX12_nextTable_9 (F : Nat) (u0 : Nat) (k56 : Int → HF → RO) : Nat → Int → HF → RO
  | 0, _, _ => none
  | n + 1, v1, h =>
    if v1 < 0 then (
      k56 v1 h
    ) else (
      zbd (fX12_lineAt F u0 9 v1 h) fun r5 h =>
      zrd h (u0 + 6) r5 fun x6 =>
      zrd h (u0 + 3) 9 fun x7 =>
      if x6 = wr (x7 - 1) then (
        zbd (fX12_lineAt F u0 9 v1 h) fun r8 h =>
        zwr h (u0 + 6) r8 0 fun h =>
        zlet (wr (v1 + (-1))) fun x9 =>
        LX12_nextTable_9 F u0 k56 n x9 h
      ) else (
        k56 v1 h
      )
    )
set_option maxHeartbeats 4000000 in
set_option maxRecDepth 100000 in
theorem wX12_nextTable_9 {p : Program} {l : Launch} {e : Env} {s : State} {m : MethodId} {args : Array Value} {below : List Frame} {meth : Method} {c : Code} {Q : State → Prop} {g : zG} {B : Nat} {o : Int × HF} (F : Nat) (cx : Cx p s m args meth c cX12_nextTable 2 RX12 (some .boolean) g B) (u0 : Nat) (ru0 : kt u0 = 15) (k56 : Int → HF → RO) (hk56 : ∀ (x1 : Int) (h : HF) (H : Heap) (locs : List Loc) (ls : Array Slot), rng x1 → Hp g B s h H locs → lv_has ls 2 [(0, .ref (B + u0)), (1, .int (ii x1))] → k56 x1 h = some o → W p l e (rmn 2) s m args below meth c H locs 0 0 Q (F0 m 56 ls [])) : ∀ (n : Nat) (v1 : Int) (h : HF) (H : Heap) (locs : List Loc) (ls : Array Slot), rng v1 → Hp g B s h H locs → lv_has ls 2 [(0, .ref (B + u0)), (1, .int (ii v1))] → LX12_nextTable_9 F u0 k56 n v1 h = some o → W p l e (rmn 2) s m args below meth c H locs 0 0 Q (F0 m 9 ls []) := by
  intro n
  induction n with
  | zero =>
    intro v1 h H locs ls rv1 hp hl hf
    cases hf
  | succ n ih =>
    intro v1 h H locs ls rv1 hp hl hf
    rw [LX12_nextTable_9] at hf
    refine lv_iload_n cx.1 cx.2.1 dX12_nextTable_9 rfl (lv_at hl 1 rfl) ?_
    refine z_if_lt cx rv1 (tgt := 56) dX12_nextTable_10 (by decide) hf (fun _ hf => ?_) (fun _ hf => ?_)
    · exact hk56 v1 h _ _ ls rv1 hp (lv_sub hl [0, 1] rfl) hf
    · refine lv_aload_n cx.1 cx.2.1 dX12_nextTable_13 rfl (lv_at hl 0 rfl) ?_
      refine z_gets cx hp (T := TX12) 12 9 (u0 + 6) rfl zin_12 (by decide) (by decide) ru0 rfl fl_X12_25 dX12_nextTable_14 ?_
      refine lv_aload_n cx.1 cx.2.1 dX12_nextTable_17 rfl (lv_at hl 0 rfl) ?_
      refine z_bipush cx (by decide) dX12_nextTable_18 ?_
      refine lv_iload_n cx.1 cx.2.1 dX12_nextTable_20 rfl (lv_at hl 1 rfl) ?_
      refine z_ci cx hp (fun o' hx => zrunV (n := 2) (As := [.int (ii 9), .int (ii v1)]) (rest := [.ref (B + (u0 + 6))]) cx hp (mX12_lineAt F l g B h u0 9 v1 ru0 (by decide) rv1 o' hx) 12 ru0 (by decide) rfl vw_X12_lineAt ml_X12_184 (by decide) rfl hl.1 rfl (Nat.le_of_ble_eq_true rfl) dX12_nextTable_21) hf (fun r5 h H locs rr5 hp hf => ?_)
      refine z_iald cx hp (zs_12_9 u0 (kt_lt ru0 (by decide)) ru0) rr5 dX12_nextTable_24 hf (fun x6 rx6 hf => ?_)
      refine lv_aload_n cx.1 cx.2.1 dX12_nextTable_25 rfl (lv_at hl 0 rfl) ?_
      refine z_gets cx hp (T := TX12) 12 6 (u0 + 3) rfl zin_12 (by decide) (by decide) ru0 rfl fl_X12_16 dX12_nextTable_26 ?_
      refine z_bipush cx (by decide) dX12_nextTable_29 ?_
      refine z_iald cx hp (zs_12_6 u0 (kt_lt ru0 (by decide)) ru0) (by decide) dX12_nextTable_31 hf (fun x7 rx7 hf => ?_)
      refine z_iconst cx dX12_nextTable_32 ?_
      refine z_isub cx dX12_nextTable_33 ?_
      refine z_icmp_ne cx rx6 (rng_wr _) (tgt := 56) dX12_nextTable_34 (by decide) hf (fun _ hf => ?_) (fun _ hf => ?_)
      · refine lv_aload_n cx.1 cx.2.1 dX12_nextTable_37 rfl (lv_at hl 0 rfl) ?_
        refine z_gets cx hp (T := TX12) 12 9 (u0 + 6) rfl zin_12 (by decide) (by decide) ru0 rfl fl_X12_25 dX12_nextTable_38 ?_
        refine lv_aload_n cx.1 cx.2.1 dX12_nextTable_41 rfl (lv_at hl 0 rfl) ?_
        refine z_bipush cx (by decide) dX12_nextTable_42 ?_
        refine lv_iload_n cx.1 cx.2.1 dX12_nextTable_44 rfl (lv_at hl 1 rfl) ?_
        refine z_ci cx hp (fun o' hx => zrunV (n := 2) (As := [.int (ii 9), .int (ii v1)]) (rest := [.ref (B + (u0 + 6))]) cx hp (mX12_lineAt F l g B h u0 9 v1 ru0 (by decide) rv1 o' hx) 12 ru0 (by decide) rfl vw_X12_lineAt ml_X12_184 (by decide) rfl hl.1 rfl (Nat.le_of_ble_eq_true rfl) dX12_nextTable_45) hf (fun r8 h H locs rr8 hp hf => ?_)
        refine z_iconst cx dX12_nextTable_48 ?_
        refine z_iast cx hp (zs_12_9 u0 (kt_lt ru0 (by decide)) ru0) rr8 (by decide) dX12_nextTable_49 hf (fun h H locs hp hf => ?_)
        refine z_iinc cx (fun x9 => [(1, .int (ii x9)), (0, .ref (B + u0))]) dX12_nextTable_50 hl (k := 1) rfl (by decide) (fun _ => rfl) hf (fun x9 rx9 hf ls hl => ?_)
        refine lv_goto (tgt := 9) cx.1 cx.2.1 dX12_nextTable_53 (by decide) ?_
        exact ih x9 h _ _ ls rx9 hp (lv_sub hl [1, 0] rfl) hf
      · exact hk56 v1 h _ _ ls rv1 hp (lv_sub hl [0, 1] rfl) hf
def fX12_nextTable (F : Nat) (a0 : Nat) (h : HF) : RO :=
  zbd (fX12_cellsOf F a0 9 h) fun r1 h =>
  zlet (wr (r1 - 1)) fun x2 =>
  zjn (fun (x56_1 : Int) (h : HF) => (
    if x56_1 < 0 then (
      zrz 0 h
    ) else (
      zbd (fX12_lineAt F a0 9 x56_1 h) fun r3 h =>
      zrd h (a0 + 6) r3 fun x4 =>
      zwr h (a0 + 6) r3 (wr (x4 + 1)) fun h =>
      zrz 1 h
    )
  )) fun j56 =>
  LX12_nextTable_9 F a0 j56 F x2 h
set_option maxHeartbeats 4000000 in
set_option maxRecDepth 100000 in
theorem mX12_nextTable (F : Nat) (l : Launch) (g : zG) (B : Nat) (h : HF) (a0 : Nat) (ra0 : kt a0 = 15) : CTi l g B yX12_nextTable cX12_nextTable 2 (some .boolean) 2 [.ref (B + a0)] h (fX12_nextTable F a0 h) := by
  refine z_enterI (by decide) rfl (Nat.le_of_ble_eq_true rfl) ?_
  intro p e s m args below meth c ls o Q cx hp hl hf hQ
  have hl : lv_has ls 2 [(0, .ref (B + a0))] := hl
  unfold fX12_nextTable at hf
  refine lv_aload_n cx.1 cx.2.1 dX12_nextTable_0 rfl (lv_at hl 0 rfl) ?_
  refine z_bipush cx (by decide) dX12_nextTable_1 ?_
  refine z_ci cx hp (fun o' hx => zrunV (n := 2) (As := [.int (ii 9)]) (rest := []) cx hp (mX12_cellsOf F l g B h a0 9 ra0 (by decide) o' hx) 12 ra0 (by decide) rfl vw_X12_cellsOf ml_X12_160 (by decide) rfl hl.1 rfl (Nat.le_of_ble_eq_true rfl) dX12_nextTable_3) hf (fun r1 h H locs rr1 hp hf => ?_)
  refine z_iconst cx dX12_nextTable_6 ?_
  refine z_isub cx dX12_nextTable_7 ?_
  refine z_let (rng_wr _) hf (fun x2 rx2 hf => ?_)
  refine lv_istore_n (lv' := [(1, .int (ii x2)), (0, .ref (B + a0))]) cx.1 cx.2.1 dX12_nextTable_8 rfl hl (by decide) rfl (fun ls hl => ?_)
  refine z_jn hf (fun j => ∀ (x56_1 : Int) (h : HF) (H : Heap) (locs : List Loc) (ls : Array Slot), rng x56_1 → Hp g B s h H locs → lv_has ls 2 [(0, .ref (B + a0)), (1, .int (ii x56_1))] → j x56_1 h = some o → W p l e (rmn 2) s m args below meth c H locs 0 0 Q (F0 m 56 ls [])) ?_ (fun j56 hj56 hf => ?_)
  · intro x56_1 h H locs ls rx56_1 hp hl hf
    refine lv_iload_n cx.1 cx.2.1 dX12_nextTable_56 rfl (lv_at hl 1 rfl) ?_
    refine z_if_ge cx rx56_1 (tgt := 62) dX12_nextTable_57 (by decide) hf (fun _ hf => ?_) (fun _ hf => ?_)
    · refine z_iconst cx dX12_nextTable_60 ?_
      rw [hQ]; exact z_zret cx hp dX12_nextTable_61 hf
    · refine lv_aload_n cx.1 cx.2.1 dX12_nextTable_62 rfl (lv_at hl 0 rfl) ?_
      refine z_gets cx hp (T := TX12) 12 9 (a0 + 6) rfl zin_12 (by decide) (by decide) ra0 rfl fl_X12_25 dX12_nextTable_63 ?_
      refine lv_aload_n cx.1 cx.2.1 dX12_nextTable_66 rfl (lv_at hl 0 rfl) ?_
      refine z_bipush cx (by decide) dX12_nextTable_67 ?_
      refine lv_iload_n cx.1 cx.2.1 dX12_nextTable_69 rfl (lv_at hl 1 rfl) ?_
      refine z_ci cx hp (fun o' hx => zrunV (n := 2) (As := [.int (ii 9), .int (ii x56_1)]) (rest := [.ref (B + (a0 + 6))]) cx hp (mX12_lineAt F l g B h a0 9 x56_1 ra0 (by decide) rx56_1 o' hx) 12 ra0 (by decide) rfl vw_X12_lineAt ml_X12_184 (by decide) rfl hl.1 rfl (Nat.le_of_ble_eq_true rfl) dX12_nextTable_70) hf (fun r3 h H locs rr3 hp hf => ?_)
      refine lv_dup2_11 cx.1 cx.2.1 dX12_nextTable_73 rfl rfl ?_
      refine z_iald cx hp (zs_12_9 a0 (kt_lt ra0 (by decide)) ra0) rr3 dX12_nextTable_74 hf (fun x4 rx4 hf => ?_)
      refine z_iconst cx dX12_nextTable_75 ?_
      refine z_iadd cx dX12_nextTable_76 ?_
      refine z_iast cx hp (zs_12_9 a0 (kt_lt ra0 (by decide)) ra0) rr3 (rng_wr _) dX12_nextTable_77 hf (fun h H locs hp hf => ?_)
      refine z_iconst cx dX12_nextTable_78 ?_
      rw [hQ]; exact z_zret cx hp dX12_nextTable_79 hf
  exact wX12_nextTable_9 F cx a0 ra0 j56 hj56 F x2 h _ _ ls rx2 hp (lv_sub hl [1, 0] rfl) hf
