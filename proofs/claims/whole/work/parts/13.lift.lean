theorem dX12_refuseTwo_0 : decode cX12_refuseTwo 0 = .ok (.aload_n 0, 1) := by decide +kernel
theorem dX12_refuseTwo_1 : decode cX12_refuseTwo 1 = .ok (.iload_n 1, 1) := by decide +kernel
theorem dX12_refuseTwo_2 : decode cX12_refuseTwo 2 = .ok (.invokevirtual 168, 3) := by decide +kernel
theorem dX12_refuseTwo_5 : decode cX12_refuseTwo 5 = .ok (.istore_n 3, 1) := by decide +kernel
theorem dX12_refuseTwo_6 : decode cX12_refuseTwo 6 = .ok (.iload_n 3, 1) := by decide +kernel
theorem dX12_refuseTwo_7 : decode cX12_refuseTwo 7 = .ok (.ifCond .eq 7, 3) := by decide +kernel
theorem dX12_refuseTwo_10 : decode cX12_refuseTwo 10 = .ok (.iload_n 3, 1) := by decide +kernel
theorem dX12_refuseTwo_11 : decode cX12_refuseTwo 11 = .ok (.goto 33, 3) := by decide +kernel
theorem dX12_refuseTwo_14 : decode cX12_refuseTwo 14 = .ok (.aload_n 0, 1) := by decide +kernel
theorem dX12_refuseTwo_15 : decode cX12_refuseTwo 15 = .ok (.iload_n 1, 1) := by decide +kernel
theorem dX12_refuseTwo_16 : decode cX12_refuseTwo 16 = .ok (.iload_n 2, 1) := by decide +kernel
theorem dX12_refuseTwo_17 : decode cX12_refuseTwo 17 = .ok (.invokevirtual 171, 3) := by decide +kernel
theorem dX12_refuseTwo_20 : decode cX12_refuseTwo 20 = .ok (.ifCond .ne 8, 3) := by decide +kernel
theorem dX12_refuseTwo_23 : decode cX12_refuseTwo 23 = .ok (.bipush (-3), 2) := by decide +kernel
theorem dX12_refuseTwo_25 : decode cX12_refuseTwo 25 = .ok (.goto 19, 3) := by decide +kernel
theorem dX12_refuseTwo_28 : decode cX12_refuseTwo 28 = .ok (.aload_n 0, 1) := by decide +kernel
theorem dX12_refuseTwo_29 : decode cX12_refuseTwo 29 = .ok (.iload_n 1, 1) := by decide +kernel
theorem dX12_refuseTwo_30 : decode cX12_refuseTwo 30 = .ok (.iload_n 2, 1) := by decide +kernel
theorem dX12_refuseTwo_31 : decode cX12_refuseTwo 31 = .ok (.invokevirtual 129, 3) := by decide +kernel
theorem dX12_refuseTwo_34 : decode cX12_refuseTwo 34 = .ok (.iconst 2, 1) := by decide +kernel
theorem dX12_refuseTwo_35 : decode cX12_refuseTwo 35 = .ok (.if_icmp .eq 8, 3) := by decide +kernel
theorem dX12_refuseTwo_38 : decode cX12_refuseTwo 38 = .ok (.bipush (-12), 2) := by decide +kernel
theorem dX12_refuseTwo_40 : decode cX12_refuseTwo 40 = .ok (.goto 4, 3) := by decide +kernel
theorem dX12_refuseTwo_43 : decode cX12_refuseTwo 43 = .ok (.iconst 0, 1) := by decide +kernel
theorem dX12_refuseTwo_44 : decode cX12_refuseTwo 44 = .ok (.ireturn, 1) := by decide +kernel
def fX12_refuseTwo (F : Nat) (a0 : Nat) (a1 : Int) (a2 : Int) (h : HF) : RO :=
  zbd (fX12_refuse F a0 a1 h) fun r1 h =>
  zjn (fun (y44_0 : Int) (h : HF) => (
    some (y44_0, h)
  )) fun j44 =>
  if r1 = 0 then (
    zbd (fX12_isOp F a0 a1 a2 h) fun r2 h =>
    if r2 = 0 then (
      j44 (-3) h
    ) else (
      zbd (fX12_arity F a0 a1 a2 h) fun r3 h =>
      if r3 = 2 then (
        j44 0 h
      ) else (
        j44 (-12) h
      )
    )
  ) else (
    j44 r1 h
  )
set_option maxHeartbeats 4000000 in
set_option maxRecDepth 100000 in
theorem mX12_refuseTwo (F : Nat) (l : Launch) (g : zG) (B : Nat) (h : HF) (a0 : Nat) (a1 : Int) (a2 : Int) (ra0 : kt a0 = 15) (ra1 : rng a1) (ra2 : rng a2) : CTi l g B yX12_refuseTwo cX12_refuseTwo 4 (some .int) 2 [.ref (B + a0), .int (ii a1), .int (ii a2)] h (fX12_refuseTwo F a0 a1 a2 h) := by
  refine z_enterI (by decide) rfl (Nat.le_of_ble_eq_true rfl) ?_
  intro p e s m args below meth c ls o Q cx hp hl hf hQ
  have hl : lv_has ls 4 [(0, .ref (B + a0)), (1, .int (ii a1)), (2, .int (ii a2))] := hl
  unfold fX12_refuseTwo at hf
  refine lv_aload_n cx.1 cx.2.1 dX12_refuseTwo_0 rfl (lv_at hl 0 rfl) ?_
  refine lv_iload_n cx.1 cx.2.1 dX12_refuseTwo_1 rfl (lv_at hl 1 rfl) ?_
  refine z_ci cx hp (fun o' hx => zrunV (n := 2) (As := [.int (ii a1)]) (rest := []) cx hp (mX12_refuse F l g B h a0 a1 ra0 ra1 o' hx) 12 ra0 (by decide) rfl vw_X12_refuse ml_X12_168 (by decide) rfl hl.1 rfl (Nat.le_of_ble_eq_true rfl) dX12_refuseTwo_2) hf (fun r1 h H locs rr1 hp hf => ?_)
  refine lv_istore_n (lv' := [(3, .int (ii r1)), (0, .ref (B + a0)), (1, .int (ii a1)), (2, .int (ii a2))]) cx.1 cx.2.1 dX12_refuseTwo_5 rfl hl (by decide) rfl (fun ls hl => ?_)
  refine lv_iload_n cx.1 cx.2.1 dX12_refuseTwo_6 rfl (lv_at hl 0 rfl) ?_
  refine z_jn hf (fun j => ∀ (y44_0 : Int) (h : HF) (H : Heap) (locs : List Loc) (ls : Array Slot), rng y44_0 → Hp g B s h H locs → lv_has ls 4 [] → j y44_0 h = some o → W p l e (rmn 2) s m args below meth c H locs 0 0 Q (F0 m 44 ls [.int (ii y44_0)])) ?_ (fun j44 hj44 hf => ?_)
  · intro y44_0 h H locs ls ry44_0 hp hl hf
    rw [hQ]; exact z_iret cx hp ry44_0 dX12_refuseTwo_44 hf
  refine z_if_eq cx rr1 (tgt := 14) dX12_refuseTwo_7 (by decide) hf (fun _ hf => ?_) (fun _ hf => ?_)
  · refine lv_aload_n cx.1 cx.2.1 dX12_refuseTwo_14 rfl (lv_at hl 1 rfl) ?_
    refine lv_iload_n cx.1 cx.2.1 dX12_refuseTwo_15 rfl (lv_at hl 2 rfl) ?_
    refine lv_iload_n cx.1 cx.2.1 dX12_refuseTwo_16 rfl (lv_at hl 3 rfl) ?_
    refine z_ci cx hp (fun o' hx => zrunV (n := 2) (As := [.int (ii a1), .int (ii a2)]) (rest := []) cx hp (mX12_isOp F l g B h a0 a1 a2 ra0 ra1 ra2 o' hx) 12 ra0 (by decide) rfl vw_X12_isOp ml_X12_171 (by decide) rfl hl.1 rfl (Nat.le_of_ble_eq_true rfl) dX12_refuseTwo_17) hf (fun r2 h H locs rr2 hp hf => ?_)
    refine z_if_ne cx rr2 (tgt := 28) dX12_refuseTwo_20 (by decide) hf (fun _ hf => ?_) (fun _ hf => ?_)
    · refine z_bipush cx (by decide) dX12_refuseTwo_23 ?_
      refine lv_goto (tgt := 44) cx.1 cx.2.1 dX12_refuseTwo_25 (by decide) ?_
      exact hj44 (-3) h _ _ ls (by decide) hp (lv_sub hl [] rfl) hf
    · refine lv_aload_n cx.1 cx.2.1 dX12_refuseTwo_28 rfl (lv_at hl 1 rfl) ?_
      refine lv_iload_n cx.1 cx.2.1 dX12_refuseTwo_29 rfl (lv_at hl 2 rfl) ?_
      refine lv_iload_n cx.1 cx.2.1 dX12_refuseTwo_30 rfl (lv_at hl 3 rfl) ?_
      refine z_ci cx hp (fun o' hx => zrunV (n := 2) (As := [.int (ii a1), .int (ii a2)]) (rest := []) cx hp (mX12_arity F l g B h a0 a1 a2 ra0 ra1 ra2 o' hx) 12 ra0 (by decide) rfl vw_X12_arity ml_X12_129 (by decide) rfl hl.1 rfl (Nat.le_of_ble_eq_true rfl) dX12_refuseTwo_31) hf (fun r3 h H locs rr3 hp hf => ?_)
      refine z_iconst cx dX12_refuseTwo_34 ?_
      refine z_icmp_eq cx rr3 (by decide) (tgt := 43) dX12_refuseTwo_35 (by decide) hf (fun _ hf => ?_) (fun _ hf => ?_)
      · refine z_iconst cx dX12_refuseTwo_43 ?_
        exact hj44 0 h _ _ ls (by decide) hp (lv_sub hl [] rfl) hf
      · refine z_bipush cx (by decide) dX12_refuseTwo_38 ?_
        refine lv_goto (tgt := 44) cx.1 cx.2.1 dX12_refuseTwo_40 (by decide) ?_
        exact hj44 (-12) h _ _ ls (by decide) hp (lv_sub hl [] rfl) hf
  · refine lv_iload_n cx.1 cx.2.1 dX12_refuseTwo_10 rfl (lv_at hl 0 rfl) ?_
    refine lv_goto (tgt := 44) cx.1 cx.2.1 dX12_refuseTwo_11 (by decide) ?_
    exact hj44 r1 h _ _ ls rr1 hp (lv_sub hl [] rfl) hf
theorem dX12_traits_0 : decode cX12_traits 0 = .ok (.aload_n 0, 1) := by decide +kernel
theorem dX12_traits_1 : decode cX12_traits 1 = .ok (.iconst 0, 1) := by decide +kernel
theorem dX12_traits_2 : decode cX12_traits 2 = .ok (.putfield 115, 3) := by decide +kernel
theorem dX12_traits_5 : decode cX12_traits 5 = .ok (.aload_n 0, 1) := by decide +kernel
theorem dX12_traits_6 : decode cX12_traits 6 = .ok (.iload_n 1, 1) := by decide +kernel
theorem dX12_traits_7 : decode cX12_traits 7 = .ok (.iload_n 2, 1) := by decide +kernel
theorem dX12_traits_8 : decode cX12_traits 8 = .ok (.invokevirtual 181, 3) := by decide +kernel
theorem dX12_traits_11 : decode cX12_traits 11 = .ok (.istore_n 3, 1) := by decide +kernel
theorem dX12_traits_12 : decode cX12_traits 12 = .ok (.iload_n 3, 1) := by decide +kernel
theorem dX12_traits_13 : decode cX12_traits 13 = .ok (.ifCond .eq 5, 3) := by decide +kernel
theorem dX12_traits_16 : decode cX12_traits 16 = .ok (.iload_n 3, 1) := by decide +kernel
theorem dX12_traits_17 : decode cX12_traits 17 = .ok (.ireturn, 1) := by decide +kernel
theorem dX12_traits_18 : decode cX12_traits 18 = .ok (.aload_n 0, 1) := by decide +kernel
theorem dX12_traits_19 : decode cX12_traits 19 = .ok (.getfield 16, 3) := by decide +kernel
theorem dX12_traits_22 : decode cX12_traits 22 = .ok (.iload_n 1, 1) := by decide +kernel
theorem dX12_traits_23 : decode cX12_traits 23 = .ok (.iaload, 1) := by decide +kernel
theorem dX12_traits_24 : decode cX12_traits 24 = .ok (.istore 4, 2) := by decide +kernel
theorem dX12_traits_26 : decode cX12_traits 26 = .ok (.iload_n 1, 1) := by decide +kernel
theorem dX12_traits_27 : decode cX12_traits 27 = .ok (.istore 5, 2) := by decide +kernel
theorem dX12_traits_29 : decode cX12_traits 29 = .ok (.iload_n 2, 1) := by decide +kernel
theorem dX12_traits_30 : decode cX12_traits 30 = .ok (.istore 6, 2) := by decide +kernel
theorem dX12_traits_32 : decode cX12_traits 32 = .ok (.iconst 1, 1) := by decide +kernel
theorem dX12_traits_33 : decode cX12_traits 33 = .ok (.istore 7, 2) := by decide +kernel
theorem dX12_traits_35 : decode cX12_traits 35 = .ok (.iconst 1, 1) := by decide +kernel
theorem dX12_traits_36 : decode cX12_traits 36 = .ok (.istore 8, 2) := by decide +kernel
theorem dX12_traits_38 : decode cX12_traits 38 = .ok (.iconst 1, 1) := by decide +kernel
theorem dX12_traits_39 : decode cX12_traits 39 = .ok (.istore 9, 2) := by decide +kernel
theorem dX12_traits_41 : decode cX12_traits 41 = .ok (.iconst 1, 1) := by decide +kernel
theorem dX12_traits_42 : decode cX12_traits 42 = .ok (.istore 10, 2) := by decide +kernel
theorem dX12_traits_44 : decode cX12_traits 44 = .ok (.iconst 1, 1) := by decide +kernel
theorem dX12_traits_45 : decode cX12_traits 45 = .ok (.istore 11, 2) := by decide +kernel
theorem dX12_traits_47 : decode cX12_traits 47 = .ok (.iconst 0, 1) := by decide +kernel
theorem dX12_traits_48 : decode cX12_traits 48 = .ok (.istore 12, 2) := by decide +kernel
theorem dX12_traits_50 : decode cX12_traits 50 = .ok (.iconst 0, 1) := by decide +kernel
theorem dX12_traits_51 : decode cX12_traits 51 = .ok (.istore 13, 2) := by decide +kernel
theorem dX12_traits_53 : decode cX12_traits 53 = .ok (.iload 13, 2) := by decide +kernel
theorem dX12_traits_55 : decode cX12_traits 55 = .ok (.iload 4, 2) := by decide +kernel
theorem dX12_traits_57 : decode cX12_traits 57 = .ok (.if_icmp .ge 339, 3) := by decide +kernel
theorem dX12_traits_60 : decode cX12_traits 60 = .ok (.iconst 0, 1) := by decide +kernel
theorem dX12_traits_61 : decode cX12_traits 61 = .ok (.istore 14, 2) := by decide +kernel
theorem dX12_traits_63 : decode cX12_traits 63 = .ok (.iconst 0, 1) := by decide +kernel
theorem dX12_traits_64 : decode cX12_traits 64 = .ok (.istore 15, 2) := by decide +kernel
theorem dX12_traits_66 : decode cX12_traits 66 = .ok (.iconst 1, 1) := by decide +kernel
theorem dX12_traits_67 : decode cX12_traits 67 = .ok (.istore 16, 2) := by decide +kernel
theorem dX12_traits_69 : decode cX12_traits 69 = .ok (.iconst 0, 1) := by decide +kernel
theorem dX12_traits_70 : decode cX12_traits 70 = .ok (.istore 17, 2) := by decide +kernel
theorem dX12_traits_72 : decode cX12_traits 72 = .ok (.iload 17, 2) := by decide +kernel
theorem dX12_traits_74 : decode cX12_traits 74 = .ok (.iload 4, 2) := by decide +kernel
theorem dX12_traits_76 : decode cX12_traits 76 = .ok (.if_icmp .ge 234, 3) := by decide +kernel
theorem dX12_traits_79 : decode cX12_traits 79 = .ok (.aload_n 0, 1) := by decide +kernel
theorem dX12_traits_80 : decode cX12_traits 80 = .ok (.iload 5, 2) := by decide +kernel
theorem dX12_traits_82 : decode cX12_traits 82 = .ok (.iload 6, 2) := by decide +kernel
theorem dX12_traits_84 : decode cX12_traits 84 = .ok (.iload 13, 2) := by decide +kernel
theorem dX12_traits_86 : decode cX12_traits 86 = .ok (.iload 17, 2) := by decide +kernel
theorem dX12_traits_88 : decode cX12_traits 88 = .ok (.invokevirtual 178, 3) := by decide +kernel
theorem dX12_traits_91 : decode cX12_traits 91 = .ok (.istore 18, 2) := by decide +kernel
theorem dX12_traits_93 : decode cX12_traits 93 = .ok (.iload 8, 2) := by decide +kernel
theorem dX12_traits_95 : decode cX12_traits 95 = .ok (.ifCond .eq 24, 3) := by decide +kernel
theorem dX12_traits_98 : decode cX12_traits 98 = .ok (.iload 18, 2) := by decide +kernel
theorem dX12_traits_100 : decode cX12_traits 100 = .ok (.aload_n 0, 1) := by decide +kernel
theorem dX12_traits_101 : decode cX12_traits 101 = .ok (.iload 5, 2) := by decide +kernel
theorem dX12_traits_103 : decode cX12_traits 103 = .ok (.iload 6, 2) := by decide +kernel
theorem dX12_traits_105 : decode cX12_traits 105 = .ok (.iload 17, 2) := by decide +kernel
theorem dX12_traits_107 : decode cX12_traits 107 = .ok (.iload 13, 2) := by decide +kernel
theorem dX12_traits_109 : decode cX12_traits 109 = .ok (.invokevirtual 178, 3) := by decide +kernel
theorem dX12_traits_112 : decode cX12_traits 112 = .ok (.if_icmp .ne 7, 3) := by decide +kernel
theorem dX12_traits_115 : decode cX12_traits 115 = .ok (.iconst 1, 1) := by decide +kernel
theorem dX12_traits_116 : decode cX12_traits 116 = .ok (.goto 4, 3) := by decide +kernel
theorem dX12_traits_119 : decode cX12_traits 119 = .ok (.iconst 0, 1) := by decide +kernel
theorem dX12_traits_120 : decode cX12_traits 120 = .ok (.istore 8, 2) := by decide +kernel
theorem dX12_traits_122 : decode cX12_traits 122 = .ok (.iload 14, 2) := by decide +kernel
theorem dX12_traits_124 : decode cX12_traits 124 = .ok (.iconst 1, 1) := by decide +kernel
theorem dX12_traits_125 : decode cX12_traits 125 = .ok (.iload 18, 2) := by decide +kernel
theorem dX12_traits_127 : decode cX12_traits 127 = .ok (.ishl, 1) := by decide +kernel
theorem dX12_traits_128 : decode cX12_traits 128 = .ok (.ior, 1) := by decide +kernel
theorem dX12_traits_129 : decode cX12_traits 129 = .ok (.istore 14, 2) := by decide +kernel
theorem dX12_traits_131 : decode cX12_traits 131 = .ok (.iload 15, 2) := by decide +kernel
theorem dX12_traits_133 : decode cX12_traits 133 = .ok (.iconst 1, 1) := by decide +kernel
theorem dX12_traits_134 : decode cX12_traits 134 = .ok (.aload_n 0, 1) := by decide +kernel
theorem dX12_traits_135 : decode cX12_traits 135 = .ok (.iload 5, 2) := by decide +kernel
theorem dX12_traits_137 : decode cX12_traits 137 = .ok (.iload 6, 2) := by decide +kernel
theorem dX12_traits_139 : decode cX12_traits 139 = .ok (.iload 17, 2) := by decide +kernel
theorem dX12_traits_141 : decode cX12_traits 141 = .ok (.iload 13, 2) := by decide +kernel
theorem dX12_traits_143 : decode cX12_traits 143 = .ok (.invokevirtual 178, 3) := by decide +kernel
theorem dX12_traits_146 : decode cX12_traits 146 = .ok (.ishl, 1) := by decide +kernel
theorem dX12_traits_147 : decode cX12_traits 147 = .ok (.ior, 1) := by decide +kernel
theorem dX12_traits_148 : decode cX12_traits 148 = .ok (.istore 15, 2) := by decide +kernel
theorem dX12_traits_150 : decode cX12_traits 150 = .ok (.iload 16, 2) := by decide +kernel
theorem dX12_traits_152 : decode cX12_traits 152 = .ok (.ifCond .eq 31, 3) := by decide +kernel
theorem dX12_traits_155 : decode cX12_traits 155 = .ok (.iload 18, 2) := by decide +kernel
theorem dX12_traits_157 : decode cX12_traits 157 = .ok (.iload 17, 2) := by decide +kernel
theorem dX12_traits_159 : decode cX12_traits 159 = .ok (.if_icmp .ne 24, 3) := by decide +kernel
theorem dX12_traits_162 : decode cX12_traits 162 = .ok (.aload_n 0, 1) := by decide +kernel
theorem dX12_traits_163 : decode cX12_traits 163 = .ok (.iload 5, 2) := by decide +kernel
theorem dX12_traits_165 : decode cX12_traits 165 = .ok (.iload 6, 2) := by decide +kernel
theorem dX12_traits_167 : decode cX12_traits 167 = .ok (.iload 17, 2) := by decide +kernel
theorem dX12_traits_169 : decode cX12_traits 169 = .ok (.iload 13, 2) := by decide +kernel
theorem dX12_traits_171 : decode cX12_traits 171 = .ok (.invokevirtual 178, 3) := by decide +kernel
theorem dX12_traits_174 : decode cX12_traits 174 = .ok (.iload 17, 2) := by decide +kernel
theorem dX12_traits_176 : decode cX12_traits 176 = .ok (.if_icmp .ne 7, 3) := by decide +kernel
theorem dX12_traits_179 : decode cX12_traits 179 = .ok (.iconst 1, 1) := by decide +kernel
theorem dX12_traits_180 : decode cX12_traits 180 = .ok (.goto 4, 3) := by decide +kernel
theorem dX12_traits_183 : decode cX12_traits 183 = .ok (.iconst 0, 1) := by decide +kernel
theorem dX12_traits_184 : decode cX12_traits 184 = .ok (.istore 16, 2) := by decide +kernel
theorem dX12_traits_186 : decode cX12_traits 186 = .ok (.iconst 0, 1) := by decide +kernel
theorem dX12_traits_187 : decode cX12_traits 187 = .ok (.istore 19, 2) := by decide +kernel
theorem dX12_traits_189 : decode cX12_traits 189 = .ok (.iload 19, 2) := by decide +kernel
theorem dX12_traits_191 : decode cX12_traits 191 = .ok (.iload 4, 2) := by decide +kernel
theorem dX12_traits_193 : decode cX12_traits 193 = .ok (.if_icmp .ge 111, 3) := by decide +kernel
theorem dX12_traits_196 : decode cX12_traits 196 = .ok (.aload_n 0, 1) := by decide +kernel
theorem dX12_traits_197 : decode cX12_traits 197 = .ok (.iload 5, 2) := by decide +kernel
theorem dX12_traits_199 : decode cX12_traits 199 = .ok (.iload 6, 2) := by decide +kernel
theorem dX12_traits_201 : decode cX12_traits 201 = .ok (.iload 17, 2) := by decide +kernel
theorem dX12_traits_203 : decode cX12_traits 203 = .ok (.iload 19, 2) := by decide +kernel
theorem dX12_traits_205 : decode cX12_traits 205 = .ok (.invokevirtual 178, 3) := by decide +kernel
theorem dX12_traits_208 : decode cX12_traits 208 = .ok (.istore 20, 2) := by decide +kernel
theorem dX12_traits_210 : decode cX12_traits 210 = .ok (.iload 7, 2) := by decide +kernel
theorem dX12_traits_212 : decode cX12_traits 212 = .ok (.ifCond .eq 34, 3) := by decide +kernel
theorem dX12_traits_215 : decode cX12_traits 215 = .ok (.aload_n 0, 1) := by decide +kernel
theorem dX12_traits_216 : decode cX12_traits 216 = .ok (.iload 5, 2) := by decide +kernel
theorem dX12_traits_218 : decode cX12_traits 218 = .ok (.iload 6, 2) := by decide +kernel
theorem dX12_traits_220 : decode cX12_traits 220 = .ok (.iload 18, 2) := by decide +kernel
theorem dX12_traits_222 : decode cX12_traits 222 = .ok (.iload 19, 2) := by decide +kernel
theorem dX12_traits_224 : decode cX12_traits 224 = .ok (.invokevirtual 178, 3) := by decide +kernel
theorem dX12_traits_227 : decode cX12_traits 227 = .ok (.aload_n 0, 1) := by decide +kernel
theorem dX12_traits_228 : decode cX12_traits 228 = .ok (.iload 5, 2) := by decide +kernel
theorem dX12_traits_230 : decode cX12_traits 230 = .ok (.iload 6, 2) := by decide +kernel
theorem dX12_traits_232 : decode cX12_traits 232 = .ok (.iload 13, 2) := by decide +kernel
theorem dX12_traits_234 : decode cX12_traits 234 = .ok (.iload 20, 2) := by decide +kernel
theorem dX12_traits_236 : decode cX12_traits 236 = .ok (.invokevirtual 178, 3) := by decide +kernel
theorem dX12_traits_239 : decode cX12_traits 239 = .ok (.if_icmp .ne 7, 3) := by decide +kernel
theorem dX12_traits_242 : decode cX12_traits 242 = .ok (.iconst 1, 1) := by decide +kernel
theorem dX12_traits_243 : decode cX12_traits 243 = .ok (.goto 4, 3) := by decide +kernel
theorem dX12_traits_246 : decode cX12_traits 246 = .ok (.iconst 0, 1) := by decide +kernel
theorem dX12_traits_247 : decode cX12_traits 247 = .ok (.istore 7, 2) := by decide +kernel
theorem dX12_traits_249 : decode cX12_traits 249 = .ok (.iload 10, 2) := by decide +kernel
theorem dX12_traits_251 : decode cX12_traits 251 = .ok (.ifCond .eq 44, 3) := by decide +kernel
theorem dX12_traits_254 : decode cX12_traits 254 = .ok (.aload_n 0, 1) := by decide +kernel
theorem dX12_traits_255 : decode cX12_traits 255 = .ok (.iload 5, 2) := by decide +kernel
theorem dX12_traits_257 : decode cX12_traits 257 = .ok (.iload 6, 2) := by decide +kernel
theorem dX12_traits_259 : decode cX12_traits 259 = .ok (.iload 13, 2) := by decide +kernel
theorem dX12_traits_261 : decode cX12_traits 261 = .ok (.iload 20, 2) := by decide +kernel
theorem dX12_traits_263 : decode cX12_traits 263 = .ok (.invokevirtual 178, 3) := by decide +kernel
theorem dX12_traits_266 : decode cX12_traits 266 = .ok (.aload_n 0, 1) := by decide +kernel
theorem dX12_traits_267 : decode cX12_traits 267 = .ok (.iload 5, 2) := by decide +kernel
theorem dX12_traits_269 : decode cX12_traits 269 = .ok (.iload 6, 2) := by decide +kernel
theorem dX12_traits_271 : decode cX12_traits 271 = .ok (.iload 18, 2) := by decide +kernel
theorem dX12_traits_273 : decode cX12_traits 273 = .ok (.aload_n 0, 1) := by decide +kernel
theorem dX12_traits_274 : decode cX12_traits 274 = .ok (.iload 5, 2) := by decide +kernel
theorem dX12_traits_276 : decode cX12_traits 276 = .ok (.iload 6, 2) := by decide +kernel
theorem dX12_traits_278 : decode cX12_traits 278 = .ok (.iload 13, 2) := by decide +kernel
theorem dX12_traits_280 : decode cX12_traits 280 = .ok (.iload 19, 2) := by decide +kernel
theorem dX12_traits_282 : decode cX12_traits 282 = .ok (.invokevirtual 178, 3) := by decide +kernel
theorem dX12_traits_285 : decode cX12_traits 285 = .ok (.invokevirtual 178, 3) := by decide +kernel
theorem dX12_traits_288 : decode cX12_traits 288 = .ok (.if_icmp .ne 7, 3) := by decide +kernel
theorem dX12_traits_291 : decode cX12_traits 291 = .ok (.iconst 1, 1) := by decide +kernel
theorem dX12_traits_292 : decode cX12_traits 292 = .ok (.goto 4, 3) := by decide +kernel
theorem dX12_traits_295 : decode cX12_traits 295 = .ok (.iconst 0, 1) := by decide +kernel
theorem dX12_traits_296 : decode cX12_traits 296 = .ok (.istore 10, 2) := by decide +kernel
theorem dX12_traits_298 : decode cX12_traits 298 = .ok (.iinc 19 1, 3) := by decide +kernel
theorem dX12_traits_301 : decode cX12_traits 301 = .ok (.goto (-112), 3) := by decide +kernel
theorem dX12_traits_304 : decode cX12_traits 304 = .ok (.iinc 17 1, 3) := by decide +kernel
theorem dX12_traits_307 : decode cX12_traits 307 = .ok (.goto (-235), 3) := by decide +kernel
theorem dX12_traits_310 : decode cX12_traits 310 = .ok (.iload 11, 2) := by decide +kernel
theorem dX12_traits_312 : decode cX12_traits 312 = .ok (.ifCond .eq 29, 3) := by decide +kernel
theorem dX12_traits_315 : decode cX12_traits 315 = .ok (.iload 14, 2) := by decide +kernel
theorem dX12_traits_317 : decode cX12_traits 317 = .ok (.iconst 1, 1) := by decide +kernel
theorem dX12_traits_318 : decode cX12_traits 318 = .ok (.iload 4, 2) := by decide +kernel
theorem dX12_traits_320 : decode cX12_traits 320 = .ok (.ishl, 1) := by decide +kernel
theorem dX12_traits_321 : decode cX12_traits 321 = .ok (.iconst 1, 1) := by decide +kernel
theorem dX12_traits_322 : decode cX12_traits 322 = .ok (.isub, 1) := by decide +kernel
theorem dX12_traits_323 : decode cX12_traits 323 = .ok (.if_icmp .ne 18, 3) := by decide +kernel
theorem dX12_traits_326 : decode cX12_traits 326 = .ok (.iload 15, 2) := by decide +kernel
theorem dX12_traits_328 : decode cX12_traits 328 = .ok (.iconst 1, 1) := by decide +kernel
theorem dX12_traits_329 : decode cX12_traits 329 = .ok (.iload 4, 2) := by decide +kernel
theorem dX12_traits_331 : decode cX12_traits 331 = .ok (.ishl, 1) := by decide +kernel
theorem dX12_traits_332 : decode cX12_traits 332 = .ok (.iconst 1, 1) := by decide +kernel
theorem dX12_traits_333 : decode cX12_traits 333 = .ok (.isub, 1) := by decide +kernel
theorem dX12_traits_334 : decode cX12_traits 334 = .ok (.if_icmp .ne 7, 3) := by decide +kernel
theorem dX12_traits_337 : decode cX12_traits 337 = .ok (.iconst 1, 1) := by decide +kernel
theorem dX12_traits_338 : decode cX12_traits 338 = .ok (.goto 4, 3) := by decide +kernel
theorem dX12_traits_341 : decode cX12_traits 341 = .ok (.iconst 0, 1) := by decide +kernel
theorem dX12_traits_342 : decode cX12_traits 342 = .ok (.istore 11, 2) := by decide +kernel
theorem dX12_traits_344 : decode cX12_traits 344 = .ok (.iload 9, 2) := by decide +kernel
theorem dX12_traits_346 : decode cX12_traits 346 = .ok (.ifCond .eq 24, 3) := by decide +kernel
theorem dX12_traits_349 : decode cX12_traits 349 = .ok (.aload_n 0, 1) := by decide +kernel
theorem dX12_traits_350 : decode cX12_traits 350 = .ok (.iload 5, 2) := by decide +kernel
theorem dX12_traits_352 : decode cX12_traits 352 = .ok (.iload 6, 2) := by decide +kernel
theorem dX12_traits_354 : decode cX12_traits 354 = .ok (.iload 13, 2) := by decide +kernel
theorem dX12_traits_356 : decode cX12_traits 356 = .ok (.iload 13, 2) := by decide +kernel
theorem dX12_traits_358 : decode cX12_traits 358 = .ok (.invokevirtual 178, 3) := by decide +kernel
theorem dX12_traits_361 : decode cX12_traits 361 = .ok (.iload 13, 2) := by decide +kernel
theorem dX12_traits_363 : decode cX12_traits 363 = .ok (.if_icmp .ne 7, 3) := by decide +kernel
theorem dX12_traits_366 : decode cX12_traits 366 = .ok (.iconst 1, 1) := by decide +kernel
theorem dX12_traits_367 : decode cX12_traits 367 = .ok (.goto 4, 3) := by decide +kernel
theorem dX12_traits_370 : decode cX12_traits 370 = .ok (.iconst 0, 1) := by decide +kernel
theorem dX12_traits_371 : decode cX12_traits 371 = .ok (.istore 9, 2) := by decide +kernel
theorem dX12_traits_373 : decode cX12_traits 373 = .ok (.iload 12, 2) := by decide +kernel
theorem dX12_traits_375 : decode cX12_traits 375 = .ok (.ifCond .ne 8, 3) := by decide +kernel
theorem dX12_traits_378 : decode cX12_traits 378 = .ok (.iload 16, 2) := by decide +kernel
theorem dX12_traits_380 : decode cX12_traits 380 = .ok (.ifCond .eq 7, 3) := by decide +kernel
theorem dX12_traits_387 : decode cX12_traits 387 = .ok (.iconst 0, 1) := by decide +kernel
theorem dX12_traits_383 : decode cX12_traits 383 = .ok (.iconst 1, 1) := by decide +kernel
theorem dX12_traits_384 : decode cX12_traits 384 = .ok (.goto 4, 3) := by decide +kernel
theorem dX12_traits_388 : decode cX12_traits 388 = .ok (.istore 12, 2) := by decide +kernel
theorem dX12_traits_390 : decode cX12_traits 390 = .ok (.iinc 13 1, 3) := by decide +kernel
theorem dX12_traits_393 : decode cX12_traits 393 = .ok (.goto (-340), 3) := by decide +kernel
theorem dX12_traits_396 : decode cX12_traits 396 = .ok (.iload 7, 2) := by decide +kernel
theorem dX12_traits_398 : decode cX12_traits 398 = .ok (.ifCond .eq 7, 3) := by decide +kernel
theorem dX12_traits_401 : decode cX12_traits 401 = .ok (.iconst 1, 1) := by decide +kernel
theorem dX12_traits_402 : decode cX12_traits 402 = .ok (.goto 4, 3) := by decide +kernel
theorem dX12_traits_405 : decode cX12_traits 405 = .ok (.iconst 0, 1) := by decide +kernel
theorem dX12_traits_406 : decode cX12_traits 406 = .ok (.iload 8, 2) := by decide +kernel
theorem dX12_traits_408 : decode cX12_traits 408 = .ok (.ifCond .eq 7, 3) := by decide +kernel
theorem dX12_traits_411 : decode cX12_traits 411 = .ok (.iconst 2, 1) := by decide +kernel
theorem dX12_traits_412 : decode cX12_traits 412 = .ok (.goto 4, 3) := by decide +kernel
theorem dX12_traits_415 : decode cX12_traits 415 = .ok (.iconst 0, 1) := by decide +kernel
theorem dX12_traits_416 : decode cX12_traits 416 = .ok (.iadd, 1) := by decide +kernel
theorem dX12_traits_417 : decode cX12_traits 417 = .ok (.iload 12, 2) := by decide +kernel
theorem dX12_traits_419 : decode cX12_traits 419 = .ok (.ifCond .eq 7, 3) := by decide +kernel
theorem dX12_traits_422 : decode cX12_traits 422 = .ok (.iconst 4, 1) := by decide +kernel
theorem dX12_traits_423 : decode cX12_traits 423 = .ok (.goto 4, 3) := by decide +kernel
theorem dX12_traits_426 : decode cX12_traits 426 = .ok (.iconst 0, 1) := by decide +kernel
theorem dX12_traits_427 : decode cX12_traits 427 = .ok (.iadd, 1) := by decide +kernel
theorem dX12_traits_428 : decode cX12_traits 428 = .ok (.iload 11, 2) := by decide +kernel
theorem dX12_traits_430 : decode cX12_traits 430 = .ok (.ifCond .eq 8, 3) := by decide +kernel
theorem dX12_traits_433 : decode cX12_traits 433 = .ok (.bipush 8, 2) := by decide +kernel
theorem dX12_traits_435 : decode cX12_traits 435 = .ok (.goto 4, 3) := by decide +kernel
theorem dX12_traits_438 : decode cX12_traits 438 = .ok (.iconst 0, 1) := by decide +kernel
theorem dX12_traits_439 : decode cX12_traits 439 = .ok (.iadd, 1) := by decide +kernel
theorem dX12_traits_440 : decode cX12_traits 440 = .ok (.iload 9, 2) := by decide +kernel
theorem dX12_traits_442 : decode cX12_traits 442 = .ok (.ifCond .eq 8, 3) := by decide +kernel
theorem dX12_traits_445 : decode cX12_traits 445 = .ok (.bipush 16, 2) := by decide +kernel
theorem dX12_traits_447 : decode cX12_traits 447 = .ok (.goto 4, 3) := by decide +kernel
theorem dX12_traits_450 : decode cX12_traits 450 = .ok (.iconst 0, 1) := by decide +kernel
theorem dX12_traits_451 : decode cX12_traits 451 = .ok (.iadd, 1) := by decide +kernel
theorem dX12_traits_452 : decode cX12_traits 452 = .ok (.iload 10, 2) := by decide +kernel
theorem dX12_traits_454 : decode cX12_traits 454 = .ok (.ifCond .eq 8, 3) := by decide +kernel
theorem dX12_traits_457 : decode cX12_traits 457 = .ok (.bipush 32, 2) := by decide +kernel
theorem dX12_traits_459 : decode cX12_traits 459 = .ok (.goto 4, 3) := by decide +kernel
theorem dX12_traits_462 : decode cX12_traits 462 = .ok (.iconst 0, 1) := by decide +kernel
theorem dX12_traits_463 : decode cX12_traits 463 = .ok (.iadd, 1) := by decide +kernel
theorem dX12_traits_464 : decode cX12_traits 464 = .ok (.ireturn, 1) := by decide +kernel
def LX12_traits_189 (F : Nat) (u0 : Nat) (u4 : Int) (u5 : Int) (u6 : Int) (u8 : Int) (u9 : Int) (u11 : Int) (u12 : Int) (u13 : Int) (u14 : Int) (u15 : Int) (u16 : Int) (u17 : Int) (u18 : Int) (k304 : Int → Int → Int → Int → Int → Int → Int → HF → RO) : Nat → Int → Int → Int → HF → RO
  | 0, _, _, _, _ => none
  | n + 1, v7, v10, v19, h =>
    if v19 < u4 then (
      zbd (fX12_value F u0 u5 u6 u17 v19 h) fun r10 h =>
      zjn (fun (x247_10 : Int) (x247_19 : Int) (x247_20 : Int) (y247_0 : Int) (h : HF) => (
        zjn (fun (x296_7 : Int) (x296_19 : Int) (y296_0 : Int) (h : HF) => (
          zlet (wr (x296_19 + 1)) fun x11 =>
          LX12_traits_189 F u0 u4 u5 u6 u8 u9 u11 u12 u13 u14 u15 u16 u17 u18 k304 n x296_7 y296_0 x11 h
        )) fun j296 =>
        zjn (fun (x295_7 : Int) (x295_19 : Int) (h : HF) => (
          j296 x295_7 x295_19 0 h
        )) fun j295 =>
        if x247_10 = 0 then (
          j295 y247_0 x247_19 h
        ) else (
          zbd (fX12_value F u0 u5 u6 u13 x247_20 h) fun r12 h =>
          zbd (fX12_value F u0 u5 u6 u13 x247_19 h) fun r13 h =>
          zbd (fX12_value F u0 u5 u6 u18 r13 h) fun r14 h =>
          if r12 = r14 then (
            j296 y247_0 x247_19 1 h
          ) else (
            j295 y247_0 x247_19 h
          )
        )
      )) fun j247 =>
      zjn (fun (x246_10 : Int) (x246_19 : Int) (x246_20 : Int) (h : HF) => (
        j247 x246_10 x246_19 x246_20 0 h
      )) fun j246 =>
      if v7 = 0 then (
        j246 v10 v19 r10 h
      ) else (
        zbd (fX12_value F u0 u5 u6 u18 v19 h) fun r15 h =>
        zbd (fX12_value F u0 u5 u6 u13 r10 h) fun r16 h =>
        if r15 = r16 then (
          j247 v10 v19 r10 1 h
        ) else (
          j246 v10 v19 r10 h
        )
      )
    ) else (
      k304 v7 u8 v10 u14 u15 u16 u17 h
    )
set_option maxHeartbeats 4000000 in
set_option maxRecDepth 100000 in
theorem wX12_traits_189 {p : Program} {l : Launch} {e : Env} {s : State} {m : MethodId} {args : Array Value} {below : List Frame} {meth : Method} {c : Code} {Q : State → Prop} {g : zG} {B : Nat} {o : Int × HF} (F : Nat) (cx : Cx p s m args meth c cX12_traits 21 RX12 (some .int) g B) (u0 : Nat) (ru0 : kt u0 = 15) (u4 : Int) (ru4 : rng u4) (u5 : Int) (ru5 : rng u5) (u6 : Int) (ru6 : rng u6) (u8 : Int) (ru8 : rng u8) (u9 : Int) (ru9 : rng u9) (u11 : Int) (ru11 : rng u11) (u12 : Int) (ru12 : rng u12) (u13 : Int) (ru13 : rng u13) (u14 : Int) (ru14 : rng u14) (u15 : Int) (ru15 : rng u15) (u16 : Int) (ru16 : rng u16) (u17 : Int) (ru17 : rng u17) (u18 : Int) (ru18 : rng u18) (k304 : Int → Int → Int → Int → Int → Int → Int → HF → RO) (hk304 : ∀ (x7 : Int) (x8 : Int) (x10 : Int) (x14 : Int) (x15 : Int) (x16 : Int) (x17 : Int) (h : HF) (H : Heap) (locs : List Loc) (ls : Array Slot), rng x7 → rng x8 → rng x10 → rng x14 → rng x15 → rng x16 → rng x17 → Hp g B s h H locs → lv_has ls 21 [(0, .ref (B + u0)), (4, .int (ii u4)), (5, .int (ii u5)), (6, .int (ii u6)), (7, .int (ii x7)), (8, .int (ii x8)), (9, .int (ii u9)), (10, .int (ii x10)), (11, .int (ii u11)), (12, .int (ii u12)), (13, .int (ii u13)), (14, .int (ii x14)), (15, .int (ii x15)), (16, .int (ii x16)), (17, .int (ii x17))] → k304 x7 x8 x10 x14 x15 x16 x17 h = some o → W p l e (rmn 3) s m args below meth c H locs 0 0 Q (F0 m 304 ls [])) : ∀ (n : Nat) (v7 : Int) (v10 : Int) (v19 : Int) (h : HF) (H : Heap) (locs : List Loc) (ls : Array Slot), rng v7 → rng v10 → rng v19 → Hp g B s h H locs → lv_has ls 21 [(0, .ref (B + u0)), (4, .int (ii u4)), (5, .int (ii u5)), (6, .int (ii u6)), (7, .int (ii v7)), (8, .int (ii u8)), (9, .int (ii u9)), (10, .int (ii v10)), (11, .int (ii u11)), (12, .int (ii u12)), (13, .int (ii u13)), (14, .int (ii u14)), (15, .int (ii u15)), (16, .int (ii u16)), (17, .int (ii u17)), (18, .int (ii u18)), (19, .int (ii v19))] → LX12_traits_189 F u0 u4 u5 u6 u8 u9 u11 u12 u13 u14 u15 u16 u17 u18 k304 n v7 v10 v19 h = some o → W p l e (rmn 3) s m args below meth c H locs 0 0 Q (F0 m 189 ls []) := by
  intro n
  induction n with
  | zero =>
    intro v7 v10 v19 h H locs ls rv7 rv10 rv19 hp hl hf
    cases hf
  | succ n ih =>
    intro v7 v10 v19 h H locs ls rv7 rv10 rv19 hp hl hf
    rw [LX12_traits_189] at hf
    refine lv_iload cx.1 cx.2.1 dX12_traits_189 (lv_at hl 16 rfl) ?_
    refine lv_iload cx.1 cx.2.1 dX12_traits_191 (lv_at hl 1 rfl) ?_
    refine z_icmp_ge cx rv19 ru4 (tgt := 304) dX12_traits_193 (by decide) hf (fun _ hf => ?_) (fun _ hf => ?_)
    · refine lv_aload_n cx.1 cx.2.1 dX12_traits_196 rfl (lv_at hl 0 rfl) ?_
      refine lv_iload cx.1 cx.2.1 dX12_traits_197 (lv_at hl 2 rfl) ?_
      refine lv_iload cx.1 cx.2.1 dX12_traits_199 (lv_at hl 3 rfl) ?_
      refine lv_iload cx.1 cx.2.1 dX12_traits_201 (lv_at hl 14 rfl) ?_
      refine lv_iload cx.1 cx.2.1 dX12_traits_203 (lv_at hl 16 rfl) ?_
      refine z_ci cx hp (fun o' hx => zrunV (n := 3) (As := [.int (ii u5), .int (ii u6), .int (ii u17), .int (ii v19)]) (rest := []) cx hp (mX12_value F l g B h u0 u5 u6 u17 v19 ru0 ru5 ru6 ru17 rv19 o' hx) 12 ru0 (by decide) rfl vw_X12_value ml_X12_178 (by decide) rfl hl.1 rfl (Nat.le_of_ble_eq_true rfl) dX12_traits_205) hf (fun r10 h H locs rr10 hp hf => ?_)
      refine lv_istore (lv' := [(20, .int (ii r10)), (0, .ref (B + u0)), (4, .int (ii u4)), (5, .int (ii u5)), (6, .int (ii u6)), (7, .int (ii v7)), (8, .int (ii u8)), (9, .int (ii u9)), (10, .int (ii v10)), (11, .int (ii u11)), (12, .int (ii u12)), (13, .int (ii u13)), (14, .int (ii u14)), (15, .int (ii u15)), (16, .int (ii u16)), (17, .int (ii u17)), (18, .int (ii u18)), (19, .int (ii v19))]) cx.1 cx.2.1 dX12_traits_208 hl (by decide) rfl (fun ls hl => ?_)
      refine lv_iload cx.1 cx.2.1 dX12_traits_210 (lv_at hl 5 rfl) ?_
      refine z_jn hf (fun j => ∀ (x247_10 : Int) (x247_19 : Int) (x247_20 : Int) (y247_0 : Int) (h : HF) (H : Heap) (locs : List Loc) (ls : Array Slot), rng x247_10 → rng x247_19 → rng x247_20 → rng y247_0 → Hp g B s h H locs → lv_has ls 21 [(0, .ref (B + u0)), (4, .int (ii u4)), (5, .int (ii u5)), (6, .int (ii u6)), (8, .int (ii u8)), (9, .int (ii u9)), (10, .int (ii x247_10)), (11, .int (ii u11)), (12, .int (ii u12)), (13, .int (ii u13)), (14, .int (ii u14)), (15, .int (ii u15)), (16, .int (ii u16)), (17, .int (ii u17)), (18, .int (ii u18)), (19, .int (ii x247_19)), (20, .int (ii x247_20))] → j x247_10 x247_19 x247_20 y247_0 h = some o → W p l e (rmn 3) s m args below meth c H locs 0 0 Q (F0 m 247 ls [.int (ii y247_0)])) ?_ (fun j247 hj247 hf => ?_)
      · intro x247_10 x247_19 x247_20 y247_0 h H locs ls rx247_10 rx247_19 rx247_20 ry247_0 hp hl hf
        refine lv_istore (lv' := [(7, .int (ii y247_0)), (0, .ref (B + u0)), (4, .int (ii u4)), (5, .int (ii u5)), (6, .int (ii u6)), (8, .int (ii u8)), (9, .int (ii u9)), (10, .int (ii x247_10)), (11, .int (ii u11)), (12, .int (ii u12)), (13, .int (ii u13)), (14, .int (ii u14)), (15, .int (ii u15)), (16, .int (ii u16)), (17, .int (ii u17)), (18, .int (ii u18)), (19, .int (ii x247_19)), (20, .int (ii x247_20))]) cx.1 cx.2.1 dX12_traits_247 hl (by decide) rfl (fun ls hl => ?_)
        refine lv_iload cx.1 cx.2.1 dX12_traits_249 (lv_at hl 7 rfl) ?_
        refine z_jn hf (fun j => ∀ (x296_7 : Int) (x296_19 : Int) (y296_0 : Int) (h : HF) (H : Heap) (locs : List Loc) (ls : Array Slot), rng x296_7 → rng x296_19 → rng y296_0 → Hp g B s h H locs → lv_has ls 21 [(0, .ref (B + u0)), (4, .int (ii u4)), (5, .int (ii u5)), (6, .int (ii u6)), (7, .int (ii x296_7)), (8, .int (ii u8)), (9, .int (ii u9)), (11, .int (ii u11)), (12, .int (ii u12)), (13, .int (ii u13)), (14, .int (ii u14)), (15, .int (ii u15)), (16, .int (ii u16)), (17, .int (ii u17)), (18, .int (ii u18)), (19, .int (ii x296_19))] → j x296_7 x296_19 y296_0 h = some o → W p l e (rmn 3) s m args below meth c H locs 0 0 Q (F0 m 296 ls [.int (ii y296_0)])) ?_ (fun j296 hj296 hf => ?_)
        · intro x296_7 x296_19 y296_0 h H locs ls rx296_7 rx296_19 ry296_0 hp hl hf
          refine lv_istore (lv' := [(10, .int (ii y296_0)), (0, .ref (B + u0)), (4, .int (ii u4)), (5, .int (ii u5)), (6, .int (ii u6)), (7, .int (ii x296_7)), (8, .int (ii u8)), (9, .int (ii u9)), (11, .int (ii u11)), (12, .int (ii u12)), (13, .int (ii u13)), (14, .int (ii u14)), (15, .int (ii u15)), (16, .int (ii u16)), (17, .int (ii u17)), (18, .int (ii u18)), (19, .int (ii x296_19))]) cx.1 cx.2.1 dX12_traits_296 hl (by decide) rfl (fun ls hl => ?_)
          refine z_iinc cx (fun x11 => [(19, .int (ii x11)), (10, .int (ii y296_0)), (0, .ref (B + u0)), (4, .int (ii u4)), (5, .int (ii u5)), (6, .int (ii u6)), (7, .int (ii x296_7)), (8, .int (ii u8)), (9, .int (ii u9)), (11, .int (ii u11)), (12, .int (ii u12)), (13, .int (ii u13)), (14, .int (ii u14)), (15, .int (ii u15)), (16, .int (ii u16)), (17, .int (ii u17)), (18, .int (ii u18))]) dX12_traits_298 hl (k := 16) rfl (by decide) (fun _ => rfl) hf (fun x11 rx11 hf ls hl => ?_)
          refine lv_goto (tgt := 189) cx.1 cx.2.1 dX12_traits_301 (by decide) ?_
          exact ih x296_7 y296_0 x11 h _ _ ls rx296_7 ry296_0 rx11 hp (lv_sub hl [2, 3, 4, 5, 6, 7, 8, 1, 9, 10, 11, 12, 13, 14, 15, 16, 0] rfl) hf
        refine z_jn hf (fun j => ∀ (x295_7 : Int) (x295_19 : Int) (h : HF) (H : Heap) (locs : List Loc) (ls : Array Slot), rng x295_7 → rng x295_19 → Hp g B s h H locs → lv_has ls 21 [(0, .ref (B + u0)), (4, .int (ii u4)), (5, .int (ii u5)), (6, .int (ii u6)), (7, .int (ii x295_7)), (8, .int (ii u8)), (9, .int (ii u9)), (11, .int (ii u11)), (12, .int (ii u12)), (13, .int (ii u13)), (14, .int (ii u14)), (15, .int (ii u15)), (16, .int (ii u16)), (17, .int (ii u17)), (18, .int (ii u18)), (19, .int (ii x295_19))] → j x295_7 x295_19 h = some o → W p l e (rmn 3) s m args below meth c H locs 0 0 Q (F0 m 295 ls [])) ?_ (fun j295 hj295 hf => ?_)
        · intro x295_7 x295_19 h H locs ls rx295_7 rx295_19 hp hl hf
          refine z_iconst cx dX12_traits_295 ?_
          exact hj296 x295_7 x295_19 0 h _ _ ls rx295_7 rx295_19 (by decide) hp (lv_sub hl [0, 1, 2, 3, 4, 5, 6, 7, 8, 9, 10, 11, 12, 13, 14, 15] rfl) hf
        refine z_if_eq cx rx247_10 (tgt := 295) dX12_traits_251 (by decide) hf (fun _ hf => ?_) (fun _ hf => ?_)
        · exact hj295 y247_0 x247_19 h _ _ ls ry247_0 rx247_19 hp (lv_sub hl [1, 2, 3, 4, 0, 5, 6, 8, 9, 10, 11, 12, 13, 14, 15, 16] rfl) hf
        · refine lv_aload_n cx.1 cx.2.1 dX12_traits_254 rfl (lv_at hl 1 rfl) ?_
          refine lv_iload cx.1 cx.2.1 dX12_traits_255 (lv_at hl 3 rfl) ?_
          refine lv_iload cx.1 cx.2.1 dX12_traits_257 (lv_at hl 4 rfl) ?_
          refine lv_iload cx.1 cx.2.1 dX12_traits_259 (lv_at hl 10 rfl) ?_
          refine lv_iload cx.1 cx.2.1 dX12_traits_261 (lv_at hl 17 rfl) ?_
          refine z_ci cx hp (fun o' hx => zrunV (n := 3) (As := [.int (ii u5), .int (ii u6), .int (ii u13), .int (ii x247_20)]) (rest := []) cx hp (mX12_value F l g B h u0 u5 u6 u13 x247_20 ru0 ru5 ru6 ru13 rx247_20 o' hx) 12 ru0 (by decide) rfl vw_X12_value ml_X12_178 (by decide) rfl hl.1 rfl (Nat.le_of_ble_eq_true rfl) dX12_traits_263) hf (fun r12 h H locs rr12 hp hf => ?_)
          refine lv_aload_n cx.1 cx.2.1 dX12_traits_266 rfl (lv_at hl 1 rfl) ?_
          refine lv_iload cx.1 cx.2.1 dX12_traits_267 (lv_at hl 3 rfl) ?_
          refine lv_iload cx.1 cx.2.1 dX12_traits_269 (lv_at hl 4 rfl) ?_
          refine lv_iload cx.1 cx.2.1 dX12_traits_271 (lv_at hl 15 rfl) ?_
          refine lv_aload_n cx.1 cx.2.1 dX12_traits_273 rfl (lv_at hl 1 rfl) ?_
          refine lv_iload cx.1 cx.2.1 dX12_traits_274 (lv_at hl 3 rfl) ?_
          refine lv_iload cx.1 cx.2.1 dX12_traits_276 (lv_at hl 4 rfl) ?_
          refine lv_iload cx.1 cx.2.1 dX12_traits_278 (lv_at hl 10 rfl) ?_
          refine lv_iload cx.1 cx.2.1 dX12_traits_280 (lv_at hl 16 rfl) ?_
          refine z_ci cx hp (fun o' hx => zrunV (n := 3) (As := [.int (ii u5), .int (ii u6), .int (ii u13), .int (ii x247_19)]) (rest := [.int (ii u18), .int (ii u6), .int (ii u5), .ref (B + u0), .int (ii r12)]) cx hp (mX12_value F l g B h u0 u5 u6 u13 x247_19 ru0 ru5 ru6 ru13 rx247_19 o' hx) 12 ru0 (by decide) rfl vw_X12_value ml_X12_178 (by decide) rfl hl.1 rfl (Nat.le_of_ble_eq_true rfl) dX12_traits_282) hf (fun r13 h H locs rr13 hp hf => ?_)
          refine z_ci cx hp (fun o' hx => zrunV (n := 3) (As := [.int (ii u5), .int (ii u6), .int (ii u18), .int (ii r13)]) (rest := [.int (ii r12)]) cx hp (mX12_value F l g B h u0 u5 u6 u18 r13 ru0 ru5 ru6 ru18 rr13 o' hx) 12 ru0 (by decide) rfl vw_X12_value ml_X12_178 (by decide) rfl hl.1 rfl (Nat.le_of_ble_eq_true rfl) dX12_traits_285) hf (fun r14 h H locs rr14 hp hf => ?_)
          refine z_icmp_ne cx rr12 rr14 (tgt := 295) dX12_traits_288 (by decide) hf (fun _ hf => ?_) (fun _ hf => ?_)
          · refine z_iconst cx dX12_traits_291 ?_
            refine lv_goto (tgt := 296) cx.1 cx.2.1 dX12_traits_292 (by decide) ?_
            exact hj296 y247_0 x247_19 1 h _ _ ls ry247_0 rx247_19 (by decide) hp (lv_sub hl [1, 2, 3, 4, 0, 5, 6, 8, 9, 10, 11, 12, 13, 14, 15, 16] rfl) hf
          · exact hj295 y247_0 x247_19 h _ _ ls ry247_0 rx247_19 hp (lv_sub hl [1, 2, 3, 4, 0, 5, 6, 8, 9, 10, 11, 12, 13, 14, 15, 16] rfl) hf
      refine z_jn hf (fun j => ∀ (x246_10 : Int) (x246_19 : Int) (x246_20 : Int) (h : HF) (H : Heap) (locs : List Loc) (ls : Array Slot), rng x246_10 → rng x246_19 → rng x246_20 → Hp g B s h H locs → lv_has ls 21 [(0, .ref (B + u0)), (4, .int (ii u4)), (5, .int (ii u5)), (6, .int (ii u6)), (8, .int (ii u8)), (9, .int (ii u9)), (10, .int (ii x246_10)), (11, .int (ii u11)), (12, .int (ii u12)), (13, .int (ii u13)), (14, .int (ii u14)), (15, .int (ii u15)), (16, .int (ii u16)), (17, .int (ii u17)), (18, .int (ii u18)), (19, .int (ii x246_19)), (20, .int (ii x246_20))] → j x246_10 x246_19 x246_20 h = some o → W p l e (rmn 3) s m args below meth c H locs 0 0 Q (F0 m 246 ls [])) ?_ (fun j246 hj246 hf => ?_)
      · intro x246_10 x246_19 x246_20 h H locs ls rx246_10 rx246_19 rx246_20 hp hl hf
        refine z_iconst cx dX12_traits_246 ?_
        exact hj247 x246_10 x246_19 x246_20 0 h _ _ ls rx246_10 rx246_19 rx246_20 (by decide) hp (lv_sub hl [0, 1, 2, 3, 4, 5, 6, 7, 8, 9, 10, 11, 12, 13, 14, 15, 16] rfl) hf
      refine z_if_eq cx rv7 (tgt := 246) dX12_traits_212 (by decide) hf (fun _ hf => ?_) (fun _ hf => ?_)
      · exact hj246 v10 v19 r10 h _ _ ls rv10 rv19 rr10 hp (lv_sub hl [1, 2, 3, 4, 6, 7, 8, 9, 10, 11, 12, 13, 14, 15, 16, 17, 0] rfl) hf
      · refine lv_aload_n cx.1 cx.2.1 dX12_traits_215 rfl (lv_at hl 1 rfl) ?_
        refine lv_iload cx.1 cx.2.1 dX12_traits_216 (lv_at hl 3 rfl) ?_
        refine lv_iload cx.1 cx.2.1 dX12_traits_218 (lv_at hl 4 rfl) ?_
        refine lv_iload cx.1 cx.2.1 dX12_traits_220 (lv_at hl 16 rfl) ?_
        refine lv_iload cx.1 cx.2.1 dX12_traits_222 (lv_at hl 17 rfl) ?_
        refine z_ci cx hp (fun o' hx => zrunV (n := 3) (As := [.int (ii u5), .int (ii u6), .int (ii u18), .int (ii v19)]) (rest := []) cx hp (mX12_value F l g B h u0 u5 u6 u18 v19 ru0 ru5 ru6 ru18 rv19 o' hx) 12 ru0 (by decide) rfl vw_X12_value ml_X12_178 (by decide) rfl hl.1 rfl (Nat.le_of_ble_eq_true rfl) dX12_traits_224) hf (fun r15 h H locs rr15 hp hf => ?_)
        refine lv_aload_n cx.1 cx.2.1 dX12_traits_227 rfl (lv_at hl 1 rfl) ?_
        refine lv_iload cx.1 cx.2.1 dX12_traits_228 (lv_at hl 3 rfl) ?_
        refine lv_iload cx.1 cx.2.1 dX12_traits_230 (lv_at hl 4 rfl) ?_
        refine lv_iload cx.1 cx.2.1 dX12_traits_232 (lv_at hl 11 rfl) ?_
        refine lv_iload cx.1 cx.2.1 dX12_traits_234 (lv_at hl 0 rfl) ?_
        refine z_ci cx hp (fun o' hx => zrunV (n := 3) (As := [.int (ii u5), .int (ii u6), .int (ii u13), .int (ii r10)]) (rest := [.int (ii r15)]) cx hp (mX12_value F l g B h u0 u5 u6 u13 r10 ru0 ru5 ru6 ru13 rr10 o' hx) 12 ru0 (by decide) rfl vw_X12_value ml_X12_178 (by decide) rfl hl.1 rfl (Nat.le_of_ble_eq_true rfl) dX12_traits_236) hf (fun r16 h H locs rr16 hp hf => ?_)
        refine z_icmp_ne cx rr15 rr16 (tgt := 246) dX12_traits_239 (by decide) hf (fun _ hf => ?_) (fun _ hf => ?_)
        · refine z_iconst cx dX12_traits_242 ?_
          refine lv_goto (tgt := 247) cx.1 cx.2.1 dX12_traits_243 (by decide) ?_
          exact hj247 v10 v19 r10 1 h _ _ ls rv10 rv19 rr10 (by decide) hp (lv_sub hl [1, 2, 3, 4, 6, 7, 8, 9, 10, 11, 12, 13, 14, 15, 16, 17, 0] rfl) hf
        · exact hj246 v10 v19 r10 h _ _ ls rv10 rv19 rr10 hp (lv_sub hl [1, 2, 3, 4, 6, 7, 8, 9, 10, 11, 12, 13, 14, 15, 16, 17, 0] rfl) hf
    · exact hk304 v7 u8 v10 u14 u15 u16 u17 h _ _ ls rv7 ru8 rv10 ru14 ru15 ru16 ru17 hp (lv_sub hl [0, 1, 2, 3, 4, 5, 6, 7, 8, 9, 10, 11, 12, 13, 14] rfl) hf
def LX12_traits_72 (F : Nat) (u0 : Nat) (u4 : Int) (u5 : Int) (u6 : Int) (u9 : Int) (u11 : Int) (u12 : Int) (u13 : Int) (k310 : Int → Int → Int → Int → Int → Int → Int → Int → Int → Int → HF → RO) : Nat → Int → Int → Int → Int → Int → Int → Int → HF → RO
  | 0, _, _, _, _, _, _, _, _ => none
  | n + 1, v7, v8, v10, v14, v15, v16, v17, h =>
    if v17 < u4 then (
      zbd (fX12_value F u0 u5 u6 u13 v17 h) fun r5 h =>
      zjn (fun (x120_7 : Int) (x120_10 : Int) (x120_14 : Int) (x120_15 : Int) (x120_16 : Int) (x120_17 : Int) (x120_18 : Int) (y120_0 : Int) (h : HF) => (
        zlet (wor x120_14 (wshl 1 x120_18)) fun x6 =>
        zbd (fX12_value F u0 u5 u6 x120_17 u13 h) fun r7 h =>
        zlet (wor x120_15 (wshl 1 r7)) fun x8 =>
        zjn (fun (x184_7 : Int) (x184_8 : Int) (x184_10 : Int) (x184_14 : Int) (x184_15 : Int) (x184_17 : Int) (x184_18 : Int) (y184_0 : Int) (h : HF) => (
          zjn (fun (x304_7 : Int) (x304_8 : Int) (x304_10 : Int) (x304_14 : Int) (x304_15 : Int) (x304_16 : Int) (x304_17 : Int) (h : HF) => (
            zlet (wr (x304_17 + 1)) fun x9 =>
            LX12_traits_72 F u0 u4 u5 u6 u9 u11 u12 u13 k310 n x304_7 x304_8 x304_10 x304_14 x304_15 x304_16 x9 h
          )) fun j304 =>
          LX12_traits_189 F u0 u4 u5 u6 x184_8 u9 u11 u12 u13 x184_14 x184_15 y184_0 x184_17 x184_18 j304 F x184_7 x184_10 0 h
        )) fun j184 =>
        zjn (fun (x183_7 : Int) (x183_8 : Int) (x183_10 : Int) (x183_14 : Int) (x183_15 : Int) (x183_17 : Int) (x183_18 : Int) (h : HF) => (
          j184 x183_7 x183_8 x183_10 x183_14 x183_15 x183_17 x183_18 0 h
        )) fun j183 =>
        if x120_16 = 0 then (
          j183 x120_7 y120_0 x120_10 x6 x8 x120_17 x120_18 h
        ) else (
          if x120_18 = x120_17 then (
            zbd (fX12_value F u0 u5 u6 x120_17 u13 h) fun r17 h =>
            if r17 = x120_17 then (
              j184 x120_7 y120_0 x120_10 x6 x8 x120_17 x120_18 1 h
            ) else (
              j183 x120_7 y120_0 x120_10 x6 x8 x120_17 x120_18 h
            )
          ) else (
            j183 x120_7 y120_0 x120_10 x6 x8 x120_17 x120_18 h
          )
        )
      )) fun j120 =>
      zjn (fun (x119_7 : Int) (x119_10 : Int) (x119_14 : Int) (x119_15 : Int) (x119_16 : Int) (x119_17 : Int) (x119_18 : Int) (h : HF) => (
        j120 x119_7 x119_10 x119_14 x119_15 x119_16 x119_17 x119_18 0 h
      )) fun j119 =>
      if v8 = 0 then (
        j119 v7 v10 v14 v15 v16 v17 r5 h
      ) else (
        zbd (fX12_value F u0 u5 u6 v17 u13 h) fun r18 h =>
        if r5 = r18 then (
          j120 v7 v10 v14 v15 v16 v17 r5 1 h
        ) else (
          j119 v7 v10 v14 v15 v16 v17 r5 h
        )
      )
    ) else (
      k310 v7 v8 u9 v10 u11 u12 u13 v14 v15 v16 h
    )
set_option maxHeartbeats 4000000 in
set_option maxRecDepth 100000 in
theorem wX12_traits_72 {p : Program} {l : Launch} {e : Env} {s : State} {m : MethodId} {args : Array Value} {below : List Frame} {meth : Method} {c : Code} {Q : State → Prop} {g : zG} {B : Nat} {o : Int × HF} (F : Nat) (cx : Cx p s m args meth c cX12_traits 21 RX12 (some .int) g B) (u0 : Nat) (ru0 : kt u0 = 15) (u4 : Int) (ru4 : rng u4) (u5 : Int) (ru5 : rng u5) (u6 : Int) (ru6 : rng u6) (u9 : Int) (ru9 : rng u9) (u11 : Int) (ru11 : rng u11) (u12 : Int) (ru12 : rng u12) (u13 : Int) (ru13 : rng u13) (k310 : Int → Int → Int → Int → Int → Int → Int → Int → Int → Int → HF → RO) (hk310 : ∀ (x7 : Int) (x8 : Int) (x9 : Int) (x10 : Int) (x11 : Int) (x12 : Int) (x13 : Int) (x14 : Int) (x15 : Int) (x16 : Int) (h : HF) (H : Heap) (locs : List Loc) (ls : Array Slot), rng x7 → rng x8 → rng x9 → rng x10 → rng x11 → rng x12 → rng x13 → rng x14 → rng x15 → rng x16 → Hp g B s h H locs → lv_has ls 21 [(0, .ref (B + u0)), (4, .int (ii u4)), (5, .int (ii u5)), (6, .int (ii u6)), (7, .int (ii x7)), (8, .int (ii x8)), (9, .int (ii x9)), (10, .int (ii x10)), (11, .int (ii x11)), (12, .int (ii x12)), (13, .int (ii x13)), (14, .int (ii x14)), (15, .int (ii x15)), (16, .int (ii x16))] → k310 x7 x8 x9 x10 x11 x12 x13 x14 x15 x16 h = some o → W p l e (rmn 3) s m args below meth c H locs 0 0 Q (F0 m 310 ls [])) : ∀ (n : Nat) (v7 : Int) (v8 : Int) (v10 : Int) (v14 : Int) (v15 : Int) (v16 : Int) (v17 : Int) (h : HF) (H : Heap) (locs : List Loc) (ls : Array Slot), rng v7 → rng v8 → rng v10 → rng v14 → rng v15 → rng v16 → rng v17 → Hp g B s h H locs → lv_has ls 21 [(0, .ref (B + u0)), (4, .int (ii u4)), (5, .int (ii u5)), (6, .int (ii u6)), (7, .int (ii v7)), (8, .int (ii v8)), (9, .int (ii u9)), (10, .int (ii v10)), (11, .int (ii u11)), (12, .int (ii u12)), (13, .int (ii u13)), (14, .int (ii v14)), (15, .int (ii v15)), (16, .int (ii v16)), (17, .int (ii v17))] → LX12_traits_72 F u0 u4 u5 u6 u9 u11 u12 u13 k310 n v7 v8 v10 v14 v15 v16 v17 h = some o → W p l e (rmn 3) s m args below meth c H locs 0 0 Q (F0 m 72 ls []) := by
  intro n
  induction n with
  | zero =>
    intro v7 v8 v10 v14 v15 v16 v17 h H locs ls rv7 rv8 rv10 rv14 rv15 rv16 rv17 hp hl hf
    cases hf
  | succ n ih =>
    intro v7 v8 v10 v14 v15 v16 v17 h H locs ls rv7 rv8 rv10 rv14 rv15 rv16 rv17 hp hl hf
    rw [LX12_traits_72] at hf
    refine lv_iload cx.1 cx.2.1 dX12_traits_72 (lv_at hl 14 rfl) ?_
    refine lv_iload cx.1 cx.2.1 dX12_traits_74 (lv_at hl 1 rfl) ?_
    refine z_icmp_ge cx rv17 ru4 (tgt := 310) dX12_traits_76 (by decide) hf (fun _ hf => ?_) (fun _ hf => ?_)
    · refine lv_aload_n cx.1 cx.2.1 dX12_traits_79 rfl (lv_at hl 0 rfl) ?_
      refine lv_iload cx.1 cx.2.1 dX12_traits_80 (lv_at hl 2 rfl) ?_
      refine lv_iload cx.1 cx.2.1 dX12_traits_82 (lv_at hl 3 rfl) ?_
      refine lv_iload cx.1 cx.2.1 dX12_traits_84 (lv_at hl 10 rfl) ?_
      refine lv_iload cx.1 cx.2.1 dX12_traits_86 (lv_at hl 14 rfl) ?_
      refine z_ci cx hp (fun o' hx => zrunV (n := 3) (As := [.int (ii u5), .int (ii u6), .int (ii u13), .int (ii v17)]) (rest := []) cx hp (mX12_value F l g B h u0 u5 u6 u13 v17 ru0 ru5 ru6 ru13 rv17 o' hx) 12 ru0 (by decide) rfl vw_X12_value ml_X12_178 (by decide) rfl hl.1 rfl (Nat.le_of_ble_eq_true rfl) dX12_traits_88) hf (fun r5 h H locs rr5 hp hf => ?_)
      refine lv_istore (lv' := [(18, .int (ii r5)), (0, .ref (B + u0)), (4, .int (ii u4)), (5, .int (ii u5)), (6, .int (ii u6)), (7, .int (ii v7)), (8, .int (ii v8)), (9, .int (ii u9)), (10, .int (ii v10)), (11, .int (ii u11)), (12, .int (ii u12)), (13, .int (ii u13)), (14, .int (ii v14)), (15, .int (ii v15)), (16, .int (ii v16)), (17, .int (ii v17))]) cx.1 cx.2.1 dX12_traits_91 hl (by decide) rfl (fun ls hl => ?_)
      refine lv_iload cx.1 cx.2.1 dX12_traits_93 (lv_at hl 6 rfl) ?_
      refine z_jn hf (fun j => ∀ (x120_7 : Int) (x120_10 : Int) (x120_14 : Int) (x120_15 : Int) (x120_16 : Int) (x120_17 : Int) (x120_18 : Int) (y120_0 : Int) (h : HF) (H : Heap) (locs : List Loc) (ls : Array Slot), rng x120_7 → rng x120_10 → rng x120_14 → rng x120_15 → rng x120_16 → rng x120_17 → rng x120_18 → rng y120_0 → Hp g B s h H locs → lv_has ls 21 [(0, .ref (B + u0)), (4, .int (ii u4)), (5, .int (ii u5)), (6, .int (ii u6)), (7, .int (ii x120_7)), (9, .int (ii u9)), (10, .int (ii x120_10)), (11, .int (ii u11)), (12, .int (ii u12)), (13, .int (ii u13)), (14, .int (ii x120_14)), (15, .int (ii x120_15)), (16, .int (ii x120_16)), (17, .int (ii x120_17)), (18, .int (ii x120_18))] → j x120_7 x120_10 x120_14 x120_15 x120_16 x120_17 x120_18 y120_0 h = some o → W p l e (rmn 3) s m args below meth c H locs 0 0 Q (F0 m 120 ls [.int (ii y120_0)])) ?_ (fun j120 hj120 hf => ?_)
      · intro x120_7 x120_10 x120_14 x120_15 x120_16 x120_17 x120_18 y120_0 h H locs ls rx120_7 rx120_10 rx120_14 rx120_15 rx120_16 rx120_17 rx120_18 ry120_0 hp hl hf
        refine lv_istore (lv' := [(8, .int (ii y120_0)), (0, .ref (B + u0)), (4, .int (ii u4)), (5, .int (ii u5)), (6, .int (ii u6)), (7, .int (ii x120_7)), (9, .int (ii u9)), (10, .int (ii x120_10)), (11, .int (ii u11)), (12, .int (ii u12)), (13, .int (ii u13)), (14, .int (ii x120_14)), (15, .int (ii x120_15)), (16, .int (ii x120_16)), (17, .int (ii x120_17)), (18, .int (ii x120_18))]) cx.1 cx.2.1 dX12_traits_120 hl (by decide) rfl (fun ls hl => ?_)
        refine lv_iload cx.1 cx.2.1 dX12_traits_122 (lv_at hl 11 rfl) ?_
        refine z_iconst cx dX12_traits_124 ?_
        refine lv_iload cx.1 cx.2.1 dX12_traits_125 (lv_at hl 15 rfl) ?_
        refine z_ishl cx dX12_traits_127 ?_
        refine z_ior cx dX12_traits_128 ?_
        refine z_let (rng_or _ _) hf (fun x6 rx6 hf => ?_)
        refine lv_istore (lv' := [(14, .int (ii x6)), (8, .int (ii y120_0)), (0, .ref (B + u0)), (4, .int (ii u4)), (5, .int (ii u5)), (6, .int (ii u6)), (7, .int (ii x120_7)), (9, .int (ii u9)), (10, .int (ii x120_10)), (11, .int (ii u11)), (12, .int (ii u12)), (13, .int (ii u13)), (15, .int (ii x120_15)), (16, .int (ii x120_16)), (17, .int (ii x120_17)), (18, .int (ii x120_18))]) cx.1 cx.2.1 dX12_traits_129 hl (by decide) rfl (fun ls hl => ?_)
        refine lv_iload cx.1 cx.2.1 dX12_traits_131 (lv_at hl 12 rfl) ?_
        refine z_iconst cx dX12_traits_133 ?_
        refine lv_aload_n cx.1 cx.2.1 dX12_traits_134 rfl (lv_at hl 2 rfl) ?_
        refine lv_iload cx.1 cx.2.1 dX12_traits_135 (lv_at hl 4 rfl) ?_
        refine lv_iload cx.1 cx.2.1 dX12_traits_137 (lv_at hl 5 rfl) ?_
        refine lv_iload cx.1 cx.2.1 dX12_traits_139 (lv_at hl 14 rfl) ?_
        refine lv_iload cx.1 cx.2.1 dX12_traits_141 (lv_at hl 11 rfl) ?_
        refine z_ci cx hp (fun o' hx => zrunV (n := 3) (As := [.int (ii u5), .int (ii u6), .int (ii x120_17), .int (ii u13)]) (rest := [.int (ii 1), .int (ii x120_15)]) cx hp (mX12_value F l g B h u0 u5 u6 x120_17 u13 ru0 ru5 ru6 rx120_17 ru13 o' hx) 12 ru0 (by decide) rfl vw_X12_value ml_X12_178 (by decide) rfl hl.1 rfl (Nat.le_of_ble_eq_true rfl) dX12_traits_143) hf (fun r7 h H locs rr7 hp hf => ?_)
        refine z_ishl cx dX12_traits_146 ?_
        refine z_ior cx dX12_traits_147 ?_
        refine z_let (rng_or _ _) hf (fun x8 rx8 hf => ?_)
        refine lv_istore (lv' := [(15, .int (ii x8)), (14, .int (ii x6)), (8, .int (ii y120_0)), (0, .ref (B + u0)), (4, .int (ii u4)), (5, .int (ii u5)), (6, .int (ii u6)), (7, .int (ii x120_7)), (9, .int (ii u9)), (10, .int (ii x120_10)), (11, .int (ii u11)), (12, .int (ii u12)), (13, .int (ii u13)), (16, .int (ii x120_16)), (17, .int (ii x120_17)), (18, .int (ii x120_18))]) cx.1 cx.2.1 dX12_traits_148 hl (by decide) rfl (fun ls hl => ?_)
        refine lv_iload cx.1 cx.2.1 dX12_traits_150 (lv_at hl 13 rfl) ?_
        refine z_jn hf (fun j => ∀ (x184_7 : Int) (x184_8 : Int) (x184_10 : Int) (x184_14 : Int) (x184_15 : Int) (x184_17 : Int) (x184_18 : Int) (y184_0 : Int) (h : HF) (H : Heap) (locs : List Loc) (ls : Array Slot), rng x184_7 → rng x184_8 → rng x184_10 → rng x184_14 → rng x184_15 → rng x184_17 → rng x184_18 → rng y184_0 → Hp g B s h H locs → lv_has ls 21 [(0, .ref (B + u0)), (4, .int (ii u4)), (5, .int (ii u5)), (6, .int (ii u6)), (7, .int (ii x184_7)), (8, .int (ii x184_8)), (9, .int (ii u9)), (10, .int (ii x184_10)), (11, .int (ii u11)), (12, .int (ii u12)), (13, .int (ii u13)), (14, .int (ii x184_14)), (15, .int (ii x184_15)), (17, .int (ii x184_17)), (18, .int (ii x184_18))] → j x184_7 x184_8 x184_10 x184_14 x184_15 x184_17 x184_18 y184_0 h = some o → W p l e (rmn 3) s m args below meth c H locs 0 0 Q (F0 m 184 ls [.int (ii y184_0)])) ?_ (fun j184 hj184 hf => ?_)
        · intro x184_7 x184_8 x184_10 x184_14 x184_15 x184_17 x184_18 y184_0 h H locs ls rx184_7 rx184_8 rx184_10 rx184_14 rx184_15 rx184_17 rx184_18 ry184_0 hp hl hf
          refine lv_istore (lv' := [(16, .int (ii y184_0)), (0, .ref (B + u0)), (4, .int (ii u4)), (5, .int (ii u5)), (6, .int (ii u6)), (7, .int (ii x184_7)), (8, .int (ii x184_8)), (9, .int (ii u9)), (10, .int (ii x184_10)), (11, .int (ii u11)), (12, .int (ii u12)), (13, .int (ii u13)), (14, .int (ii x184_14)), (15, .int (ii x184_15)), (17, .int (ii x184_17)), (18, .int (ii x184_18))]) cx.1 cx.2.1 dX12_traits_184 hl (by decide) rfl (fun ls hl => ?_)
          refine z_iconst cx dX12_traits_186 ?_
          refine lv_istore (lv' := [(19, .int (ii 0)), (16, .int (ii y184_0)), (0, .ref (B + u0)), (4, .int (ii u4)), (5, .int (ii u5)), (6, .int (ii u6)), (7, .int (ii x184_7)), (8, .int (ii x184_8)), (9, .int (ii u9)), (10, .int (ii x184_10)), (11, .int (ii u11)), (12, .int (ii u12)), (13, .int (ii u13)), (14, .int (ii x184_14)), (15, .int (ii x184_15)), (17, .int (ii x184_17)), (18, .int (ii x184_18))]) cx.1 cx.2.1 dX12_traits_187 hl (by decide) rfl (fun ls hl => ?_)
          refine z_jn hf (fun j => ∀ (x304_7 : Int) (x304_8 : Int) (x304_10 : Int) (x304_14 : Int) (x304_15 : Int) (x304_16 : Int) (x304_17 : Int) (h : HF) (H : Heap) (locs : List Loc) (ls : Array Slot), rng x304_7 → rng x304_8 → rng x304_10 → rng x304_14 → rng x304_15 → rng x304_16 → rng x304_17 → Hp g B s h H locs → lv_has ls 21 [(0, .ref (B + u0)), (4, .int (ii u4)), (5, .int (ii u5)), (6, .int (ii u6)), (7, .int (ii x304_7)), (8, .int (ii x304_8)), (9, .int (ii u9)), (10, .int (ii x304_10)), (11, .int (ii u11)), (12, .int (ii u12)), (13, .int (ii u13)), (14, .int (ii x304_14)), (15, .int (ii x304_15)), (16, .int (ii x304_16)), (17, .int (ii x304_17))] → j x304_7 x304_8 x304_10 x304_14 x304_15 x304_16 x304_17 h = some o → W p l e (rmn 3) s m args below meth c H locs 0 0 Q (F0 m 304 ls [])) ?_ (fun j304 hj304 hf => ?_)
          · intro x304_7 x304_8 x304_10 x304_14 x304_15 x304_16 x304_17 h H locs ls rx304_7 rx304_8 rx304_10 rx304_14 rx304_15 rx304_16 rx304_17 hp hl hf
            refine z_iinc cx (fun x9 => [(17, .int (ii x9)), (0, .ref (B + u0)), (4, .int (ii u4)), (5, .int (ii u5)), (6, .int (ii u6)), (7, .int (ii x304_7)), (8, .int (ii x304_8)), (9, .int (ii u9)), (10, .int (ii x304_10)), (11, .int (ii u11)), (12, .int (ii u12)), (13, .int (ii u13)), (14, .int (ii x304_14)), (15, .int (ii x304_15)), (16, .int (ii x304_16))]) dX12_traits_304 hl (k := 14) rfl (by decide) (fun _ => rfl) hf (fun x9 rx9 hf ls hl => ?_)
            refine lv_goto (tgt := 72) cx.1 cx.2.1 dX12_traits_307 (by decide) ?_
            exact ih x304_7 x304_8 x304_10 x304_14 x304_15 x304_16 x9 h _ _ ls rx304_7 rx304_8 rx304_10 rx304_14 rx304_15 rx304_16 rx9 hp (lv_sub hl [1, 2, 3, 4, 5, 6, 7, 8, 9, 10, 11, 12, 13, 14, 0] rfl) hf
          exact wX12_traits_189 F cx u0 ru0 u4 ru4 u5 ru5 u6 ru6 x184_8 rx184_8 u9 ru9 u11 ru11 u12 ru12 u13 ru13 x184_14 rx184_14 x184_15 rx184_15 y184_0 ry184_0 x184_17 rx184_17 x184_18 rx184_18 j304 hj304 F x184_7 x184_10 0 h _ _ ls rx184_7 rx184_10 (by decide) hp (lv_sub hl [2, 3, 4, 5, 6, 7, 8, 9, 10, 11, 12, 13, 14, 1, 15, 16, 0] rfl) hf
        refine z_jn hf (fun j => ∀ (x183_7 : Int) (x183_8 : Int) (x183_10 : Int) (x183_14 : Int) (x183_15 : Int) (x183_17 : Int) (x183_18 : Int) (h : HF) (H : Heap) (locs : List Loc) (ls : Array Slot), rng x183_7 → rng x183_8 → rng x183_10 → rng x183_14 → rng x183_15 → rng x183_17 → rng x183_18 → Hp g B s h H locs → lv_has ls 21 [(0, .ref (B + u0)), (4, .int (ii u4)), (5, .int (ii u5)), (6, .int (ii u6)), (7, .int (ii x183_7)), (8, .int (ii x183_8)), (9, .int (ii u9)), (10, .int (ii x183_10)), (11, .int (ii u11)), (12, .int (ii u12)), (13, .int (ii u13)), (14, .int (ii x183_14)), (15, .int (ii x183_15)), (17, .int (ii x183_17)), (18, .int (ii x183_18))] → j x183_7 x183_8 x183_10 x183_14 x183_15 x183_17 x183_18 h = some o → W p l e (rmn 3) s m args below meth c H locs 0 0 Q (F0 m 183 ls [])) ?_ (fun j183 hj183 hf => ?_)
        · intro x183_7 x183_8 x183_10 x183_14 x183_15 x183_17 x183_18 h H locs ls rx183_7 rx183_8 rx183_10 rx183_14 rx183_15 rx183_17 rx183_18 hp hl hf
          refine z_iconst cx dX12_traits_183 ?_
          exact hj184 x183_7 x183_8 x183_10 x183_14 x183_15 x183_17 x183_18 0 h _ _ ls rx183_7 rx183_8 rx183_10 rx183_14 rx183_15 rx183_17 rx183_18 (by decide) hp (lv_sub hl [0, 1, 2, 3, 4, 5, 6, 7, 8, 9, 10, 11, 12, 13, 14] rfl) hf
        refine z_if_eq cx rx120_16 (tgt := 183) dX12_traits_152 (by decide) hf (fun _ hf => ?_) (fun _ hf => ?_)
        · exact hj183 x120_7 y120_0 x120_10 x6 x8 x120_17 x120_18 h _ _ ls rx120_7 ry120_0 rx120_10 rx6 rx8 rx120_17 rx120_18 hp (lv_sub hl [3, 4, 5, 6, 7, 2, 8, 9, 10, 11, 12, 1, 0, 14, 15] rfl) hf
        · refine lv_iload cx.1 cx.2.1 dX12_traits_155 (lv_at hl 15 rfl) ?_
          refine lv_iload cx.1 cx.2.1 dX12_traits_157 (lv_at hl 14 rfl) ?_
          refine z_icmp_ne cx rx120_18 rx120_17 (tgt := 183) dX12_traits_159 (by decide) hf (fun _ hf => ?_) (fun _ hf => ?_)
          · refine lv_aload_n cx.1 cx.2.1 dX12_traits_162 rfl (lv_at hl 3 rfl) ?_
            refine lv_iload cx.1 cx.2.1 dX12_traits_163 (lv_at hl 5 rfl) ?_
            refine lv_iload cx.1 cx.2.1 dX12_traits_165 (lv_at hl 6 rfl) ?_
            refine lv_iload cx.1 cx.2.1 dX12_traits_167 (lv_at hl 14 rfl) ?_
            refine lv_iload cx.1 cx.2.1 dX12_traits_169 (lv_at hl 12 rfl) ?_
            refine z_ci cx hp (fun o' hx => zrunV (n := 3) (As := [.int (ii u5), .int (ii u6), .int (ii x120_17), .int (ii u13)]) (rest := []) cx hp (mX12_value F l g B h u0 u5 u6 x120_17 u13 ru0 ru5 ru6 rx120_17 ru13 o' hx) 12 ru0 (by decide) rfl vw_X12_value ml_X12_178 (by decide) rfl hl.1 rfl (Nat.le_of_ble_eq_true rfl) dX12_traits_171) hf (fun r17 h H locs rr17 hp hf => ?_)
            refine lv_iload cx.1 cx.2.1 dX12_traits_174 (lv_at hl 14 rfl) ?_
            refine z_icmp_ne cx rr17 rx120_17 (tgt := 183) dX12_traits_176 (by decide) hf (fun _ hf => ?_) (fun _ hf => ?_)
            · refine z_iconst cx dX12_traits_179 ?_
              refine lv_goto (tgt := 184) cx.1 cx.2.1 dX12_traits_180 (by decide) ?_
              exact hj184 x120_7 y120_0 x120_10 x6 x8 x120_17 x120_18 1 h _ _ ls rx120_7 ry120_0 rx120_10 rx6 rx8 rx120_17 rx120_18 (by decide) hp (lv_sub hl [3, 4, 5, 6, 7, 2, 8, 9, 10, 11, 12, 1, 0, 14, 15] rfl) hf
            · exact hj183 x120_7 y120_0 x120_10 x6 x8 x120_17 x120_18 h _ _ ls rx120_7 ry120_0 rx120_10 rx6 rx8 rx120_17 rx120_18 hp (lv_sub hl [3, 4, 5, 6, 7, 2, 8, 9, 10, 11, 12, 1, 0, 14, 15] rfl) hf
          · exact hj183 x120_7 y120_0 x120_10 x6 x8 x120_17 x120_18 h _ _ ls rx120_7 ry120_0 rx120_10 rx6 rx8 rx120_17 rx120_18 hp (lv_sub hl [3, 4, 5, 6, 7, 2, 8, 9, 10, 11, 12, 1, 0, 14, 15] rfl) hf
      refine z_jn hf (fun j => ∀ (x119_7 : Int) (x119_10 : Int) (x119_14 : Int) (x119_15 : Int) (x119_16 : Int) (x119_17 : Int) (x119_18 : Int) (h : HF) (H : Heap) (locs : List Loc) (ls : Array Slot), rng x119_7 → rng x119_10 → rng x119_14 → rng x119_15 → rng x119_16 → rng x119_17 → rng x119_18 → Hp g B s h H locs → lv_has ls 21 [(0, .ref (B + u0)), (4, .int (ii u4)), (5, .int (ii u5)), (6, .int (ii u6)), (7, .int (ii x119_7)), (9, .int (ii u9)), (10, .int (ii x119_10)), (11, .int (ii u11)), (12, .int (ii u12)), (13, .int (ii u13)), (14, .int (ii x119_14)), (15, .int (ii x119_15)), (16, .int (ii x119_16)), (17, .int (ii x119_17)), (18, .int (ii x119_18))] → j x119_7 x119_10 x119_14 x119_15 x119_16 x119_17 x119_18 h = some o → W p l e (rmn 3) s m args below meth c H locs 0 0 Q (F0 m 119 ls [])) ?_ (fun j119 hj119 hf => ?_)
      · intro x119_7 x119_10 x119_14 x119_15 x119_16 x119_17 x119_18 h H locs ls rx119_7 rx119_10 rx119_14 rx119_15 rx119_16 rx119_17 rx119_18 hp hl hf
        refine z_iconst cx dX12_traits_119 ?_
        exact hj120 x119_7 x119_10 x119_14 x119_15 x119_16 x119_17 x119_18 0 h _ _ ls rx119_7 rx119_10 rx119_14 rx119_15 rx119_16 rx119_17 rx119_18 (by decide) hp (lv_sub hl [0, 1, 2, 3, 4, 5, 6, 7, 8, 9, 10, 11, 12, 13, 14] rfl) hf
      refine z_if_eq cx rv8 (tgt := 119) dX12_traits_95 (by decide) hf (fun _ hf => ?_) (fun _ hf => ?_)
      · exact hj119 v7 v10 v14 v15 v16 v17 r5 h _ _ ls rv7 rv10 rv14 rv15 rv16 rv17 rr5 hp (lv_sub hl [1, 2, 3, 4, 5, 7, 8, 9, 10, 11, 12, 13, 14, 15, 0] rfl) hf
      · refine lv_iload cx.1 cx.2.1 dX12_traits_98 (lv_at hl 0 rfl) ?_
        refine lv_aload_n cx.1 cx.2.1 dX12_traits_100 rfl (lv_at hl 1 rfl) ?_
        refine lv_iload cx.1 cx.2.1 dX12_traits_101 (lv_at hl 3 rfl) ?_
        refine lv_iload cx.1 cx.2.1 dX12_traits_103 (lv_at hl 4 rfl) ?_
        refine lv_iload cx.1 cx.2.1 dX12_traits_105 (lv_at hl 15 rfl) ?_
        refine lv_iload cx.1 cx.2.1 dX12_traits_107 (lv_at hl 11 rfl) ?_
        refine z_ci cx hp (fun o' hx => zrunV (n := 3) (As := [.int (ii u5), .int (ii u6), .int (ii v17), .int (ii u13)]) (rest := [.int (ii r5)]) cx hp (mX12_value F l g B h u0 u5 u6 v17 u13 ru0 ru5 ru6 rv17 ru13 o' hx) 12 ru0 (by decide) rfl vw_X12_value ml_X12_178 (by decide) rfl hl.1 rfl (Nat.le_of_ble_eq_true rfl) dX12_traits_109) hf (fun r18 h H locs rr18 hp hf => ?_)
        refine z_icmp_ne cx rr5 rr18 (tgt := 119) dX12_traits_112 (by decide) hf (fun _ hf => ?_) (fun _ hf => ?_)
        · refine z_iconst cx dX12_traits_115 ?_
          refine lv_goto (tgt := 120) cx.1 cx.2.1 dX12_traits_116 (by decide) ?_
          exact hj120 v7 v10 v14 v15 v16 v17 r5 1 h _ _ ls rv7 rv10 rv14 rv15 rv16 rv17 rr5 (by decide) hp (lv_sub hl [1, 2, 3, 4, 5, 7, 8, 9, 10, 11, 12, 13, 14, 15, 0] rfl) hf
        · exact hj119 v7 v10 v14 v15 v16 v17 r5 h _ _ ls rv7 rv10 rv14 rv15 rv16 rv17 rr5 hp (lv_sub hl [1, 2, 3, 4, 5, 7, 8, 9, 10, 11, 12, 13, 14, 15, 0] rfl) hf
    · exact hk310 v7 v8 u9 v10 u11 u12 u13 v14 v15 v16 h _ _ ls rv7 rv8 ru9 rv10 ru11 ru12 ru13 rv14 rv15 rv16 hp (lv_sub hl [0, 1, 2, 3, 4, 5, 6, 7, 8, 9, 10, 11, 12, 13] rfl) hf
def LX12_traits_53 (F : Nat) (u0 : Nat) (u4 : Int) (u5 : Int) (u6 : Int) (k396 : Int → Int → Int → Int → Int → Int → HF → RO) : Nat → Int → Int → Int → Int → Int → Int → Int → HF → RO
  | 0, _, _, _, _, _, _, _, _ => none
  | n + 1, v7, v8, v9, v10, v11, v12, v13, h =>
    if v13 < u4 then (
      zjn (fun (x310_7 : Int) (x310_8 : Int) (x310_9 : Int) (x310_10 : Int) (x310_11 : Int) (x310_12 : Int) (x310_13 : Int) (x310_14 : Int) (x310_15 : Int) (x310_16 : Int) (h : HF) => (
        zjn (fun (x342_7 : Int) (x342_8 : Int) (x342_9 : Int) (x342_10 : Int) (x342_12 : Int) (x342_13 : Int) (x342_16 : Int) (y342_0 : Int) (h : HF) => (
          zjn (fun (x371_7 : Int) (x371_8 : Int) (x371_10 : Int) (x371_11 : Int) (x371_12 : Int) (x371_13 : Int) (x371_16 : Int) (y371_0 : Int) (h : HF) => (
            zjn (fun (x388_7 : Int) (x388_8 : Int) (x388_9 : Int) (x388_10 : Int) (x388_11 : Int) (x388_13 : Int) (y388_0 : Int) (h : HF) => (
              zlet (wr (x388_13 + 1)) fun x3 =>
              LX12_traits_53 F u0 u4 u5 u6 k396 n x388_7 x388_8 x388_9 x388_10 x388_11 y388_0 x3 h
            )) fun j388 =>
            zjn (fun (x383_7 : Int) (x383_8 : Int) (x383_9 : Int) (x383_10 : Int) (x383_11 : Int) (x383_13 : Int) (h : HF) => (
              j388 x383_7 x383_8 x383_9 x383_10 x383_11 x383_13 1 h
            )) fun j383 =>
            if x371_12 = 0 then (
              if x371_16 = 0 then (
                j388 x371_7 x371_8 y371_0 x371_10 x371_11 x371_13 0 h
              ) else (
                j383 x371_7 x371_8 y371_0 x371_10 x371_11 x371_13 h
              )
            ) else (
              j383 x371_7 x371_8 y371_0 x371_10 x371_11 x371_13 h
            )
          )) fun j371 =>
          zjn (fun (x370_7 : Int) (x370_8 : Int) (x370_10 : Int) (x370_11 : Int) (x370_12 : Int) (x370_13 : Int) (x370_16 : Int) (h : HF) => (
            j371 x370_7 x370_8 x370_10 x370_11 x370_12 x370_13 x370_16 0 h
          )) fun j370 =>
          if x342_9 = 0 then (
            j370 x342_7 x342_8 x342_10 y342_0 x342_12 x342_13 x342_16 h
          ) else (
            zbd (fX12_value F u0 u5 u6 x342_13 x342_13 h) fun r4 h =>
            if r4 = x342_13 then (
              j371 x342_7 x342_8 x342_10 y342_0 x342_12 x342_13 x342_16 1 h
            ) else (
              j370 x342_7 x342_8 x342_10 y342_0 x342_12 x342_13 x342_16 h
            )
          )
        )) fun j342 =>
        zjn (fun (x341_7 : Int) (x341_8 : Int) (x341_9 : Int) (x341_10 : Int) (x341_12 : Int) (x341_13 : Int) (x341_16 : Int) (h : HF) => (
          j342 x341_7 x341_8 x341_9 x341_10 x341_12 x341_13 x341_16 0 h
        )) fun j341 =>
        if x310_11 = 0 then (
          j341 x310_7 x310_8 x310_9 x310_10 x310_12 x310_13 x310_16 h
        ) else (
          if x310_14 = wr ((wshl 1 u4) - 1) then (
            if x310_15 = wr ((wshl 1 u4) - 1) then (
              j342 x310_7 x310_8 x310_9 x310_10 x310_12 x310_13 x310_16 1 h
            ) else (
              j341 x310_7 x310_8 x310_9 x310_10 x310_12 x310_13 x310_16 h
            )
          ) else (
            j341 x310_7 x310_8 x310_9 x310_10 x310_12 x310_13 x310_16 h
          )
        )
      )) fun j310 =>
      LX12_traits_72 F u0 u4 u5 u6 v9 v11 v12 v13 j310 F v7 v8 v10 0 0 1 0 h
    ) else (
      k396 v7 v8 v9 v10 v11 v12 h
    )
set_option maxHeartbeats 4000000 in
set_option maxRecDepth 100000 in
theorem wX12_traits_53 {p : Program} {l : Launch} {e : Env} {s : State} {m : MethodId} {args : Array Value} {below : List Frame} {meth : Method} {c : Code} {Q : State → Prop} {g : zG} {B : Nat} {o : Int × HF} (F : Nat) (cx : Cx p s m args meth c cX12_traits 21 RX12 (some .int) g B) (u0 : Nat) (ru0 : kt u0 = 15) (u4 : Int) (ru4 : rng u4) (u5 : Int) (ru5 : rng u5) (u6 : Int) (ru6 : rng u6) (k396 : Int → Int → Int → Int → Int → Int → HF → RO) (hk396 : ∀ (x7 : Int) (x8 : Int) (x9 : Int) (x10 : Int) (x11 : Int) (x12 : Int) (h : HF) (H : Heap) (locs : List Loc) (ls : Array Slot), rng x7 → rng x8 → rng x9 → rng x10 → rng x11 → rng x12 → Hp g B s h H locs → lv_has ls 21 [(7, .int (ii x7)), (8, .int (ii x8)), (9, .int (ii x9)), (10, .int (ii x10)), (11, .int (ii x11)), (12, .int (ii x12))] → k396 x7 x8 x9 x10 x11 x12 h = some o → W p l e (rmn 3) s m args below meth c H locs 0 0 Q (F0 m 396 ls [])) : ∀ (n : Nat) (v7 : Int) (v8 : Int) (v9 : Int) (v10 : Int) (v11 : Int) (v12 : Int) (v13 : Int) (h : HF) (H : Heap) (locs : List Loc) (ls : Array Slot), rng v7 → rng v8 → rng v9 → rng v10 → rng v11 → rng v12 → rng v13 → Hp g B s h H locs → lv_has ls 21 [(0, .ref (B + u0)), (4, .int (ii u4)), (5, .int (ii u5)), (6, .int (ii u6)), (7, .int (ii v7)), (8, .int (ii v8)), (9, .int (ii v9)), (10, .int (ii v10)), (11, .int (ii v11)), (12, .int (ii v12)), (13, .int (ii v13))] → LX12_traits_53 F u0 u4 u5 u6 k396 n v7 v8 v9 v10 v11 v12 v13 h = some o → W p l e (rmn 3) s m args below meth c H locs 0 0 Q (F0 m 53 ls []) := by
  intro n
  induction n with
  | zero =>
    intro v7 v8 v9 v10 v11 v12 v13 h H locs ls rv7 rv8 rv9 rv10 rv11 rv12 rv13 hp hl hf
    cases hf
  | succ n ih =>
    intro v7 v8 v9 v10 v11 v12 v13 h H locs ls rv7 rv8 rv9 rv10 rv11 rv12 rv13 hp hl hf
    rw [LX12_traits_53] at hf
    refine lv_iload cx.1 cx.2.1 dX12_traits_53 (lv_at hl 10 rfl) ?_
    refine lv_iload cx.1 cx.2.1 dX12_traits_55 (lv_at hl 1 rfl) ?_
    refine z_icmp_ge cx rv13 ru4 (tgt := 396) dX12_traits_57 (by decide) hf (fun _ hf => ?_) (fun _ hf => ?_)
    · refine z_iconst cx dX12_traits_60 ?_
      refine lv_istore (lv' := [(14, .int (ii 0)), (0, .ref (B + u0)), (4, .int (ii u4)), (5, .int (ii u5)), (6, .int (ii u6)), (7, .int (ii v7)), (8, .int (ii v8)), (9, .int (ii v9)), (10, .int (ii v10)), (11, .int (ii v11)), (12, .int (ii v12)), (13, .int (ii v13))]) cx.1 cx.2.1 dX12_traits_61 hl (by decide) rfl (fun ls hl => ?_)
      refine z_iconst cx dX12_traits_63 ?_
      refine lv_istore (lv' := [(15, .int (ii 0)), (14, .int (ii 0)), (0, .ref (B + u0)), (4, .int (ii u4)), (5, .int (ii u5)), (6, .int (ii u6)), (7, .int (ii v7)), (8, .int (ii v8)), (9, .int (ii v9)), (10, .int (ii v10)), (11, .int (ii v11)), (12, .int (ii v12)), (13, .int (ii v13))]) cx.1 cx.2.1 dX12_traits_64 hl (by decide) rfl (fun ls hl => ?_)
      refine z_iconst cx dX12_traits_66 ?_
      refine lv_istore (lv' := [(16, .int (ii 1)), (15, .int (ii 0)), (14, .int (ii 0)), (0, .ref (B + u0)), (4, .int (ii u4)), (5, .int (ii u5)), (6, .int (ii u6)), (7, .int (ii v7)), (8, .int (ii v8)), (9, .int (ii v9)), (10, .int (ii v10)), (11, .int (ii v11)), (12, .int (ii v12)), (13, .int (ii v13))]) cx.1 cx.2.1 dX12_traits_67 hl (by decide) rfl (fun ls hl => ?_)
      refine z_iconst cx dX12_traits_69 ?_
      refine lv_istore (lv' := [(17, .int (ii 0)), (16, .int (ii 1)), (15, .int (ii 0)), (14, .int (ii 0)), (0, .ref (B + u0)), (4, .int (ii u4)), (5, .int (ii u5)), (6, .int (ii u6)), (7, .int (ii v7)), (8, .int (ii v8)), (9, .int (ii v9)), (10, .int (ii v10)), (11, .int (ii v11)), (12, .int (ii v12)), (13, .int (ii v13))]) cx.1 cx.2.1 dX12_traits_70 hl (by decide) rfl (fun ls hl => ?_)
      refine z_jn hf (fun j => ∀ (x310_7 : Int) (x310_8 : Int) (x310_9 : Int) (x310_10 : Int) (x310_11 : Int) (x310_12 : Int) (x310_13 : Int) (x310_14 : Int) (x310_15 : Int) (x310_16 : Int) (h : HF) (H : Heap) (locs : List Loc) (ls : Array Slot), rng x310_7 → rng x310_8 → rng x310_9 → rng x310_10 → rng x310_11 → rng x310_12 → rng x310_13 → rng x310_14 → rng x310_15 → rng x310_16 → Hp g B s h H locs → lv_has ls 21 [(0, .ref (B + u0)), (4, .int (ii u4)), (5, .int (ii u5)), (6, .int (ii u6)), (7, .int (ii x310_7)), (8, .int (ii x310_8)), (9, .int (ii x310_9)), (10, .int (ii x310_10)), (11, .int (ii x310_11)), (12, .int (ii x310_12)), (13, .int (ii x310_13)), (14, .int (ii x310_14)), (15, .int (ii x310_15)), (16, .int (ii x310_16))] → j x310_7 x310_8 x310_9 x310_10 x310_11 x310_12 x310_13 x310_14 x310_15 x310_16 h = some o → W p l e (rmn 3) s m args below meth c H locs 0 0 Q (F0 m 310 ls [])) ?_ (fun j310 hj310 hf => ?_)
      · intro x310_7 x310_8 x310_9 x310_10 x310_11 x310_12 x310_13 x310_14 x310_15 x310_16 h H locs ls rx310_7 rx310_8 rx310_9 rx310_10 rx310_11 rx310_12 rx310_13 rx310_14 rx310_15 rx310_16 hp hl hf
        refine lv_iload cx.1 cx.2.1 dX12_traits_310 (lv_at hl 8 rfl) ?_
        refine z_jn hf (fun j => ∀ (x342_7 : Int) (x342_8 : Int) (x342_9 : Int) (x342_10 : Int) (x342_12 : Int) (x342_13 : Int) (x342_16 : Int) (y342_0 : Int) (h : HF) (H : Heap) (locs : List Loc) (ls : Array Slot), rng x342_7 → rng x342_8 → rng x342_9 → rng x342_10 → rng x342_12 → rng x342_13 → rng x342_16 → rng y342_0 → Hp g B s h H locs → lv_has ls 21 [(0, .ref (B + u0)), (4, .int (ii u4)), (5, .int (ii u5)), (6, .int (ii u6)), (7, .int (ii x342_7)), (8, .int (ii x342_8)), (9, .int (ii x342_9)), (10, .int (ii x342_10)), (12, .int (ii x342_12)), (13, .int (ii x342_13)), (16, .int (ii x342_16))] → j x342_7 x342_8 x342_9 x342_10 x342_12 x342_13 x342_16 y342_0 h = some o → W p l e (rmn 3) s m args below meth c H locs 0 0 Q (F0 m 342 ls [.int (ii y342_0)])) ?_ (fun j342 hj342 hf => ?_)
        · intro x342_7 x342_8 x342_9 x342_10 x342_12 x342_13 x342_16 y342_0 h H locs ls rx342_7 rx342_8 rx342_9 rx342_10 rx342_12 rx342_13 rx342_16 ry342_0 hp hl hf
          refine lv_istore (lv' := [(11, .int (ii y342_0)), (0, .ref (B + u0)), (4, .int (ii u4)), (5, .int (ii u5)), (6, .int (ii u6)), (7, .int (ii x342_7)), (8, .int (ii x342_8)), (9, .int (ii x342_9)), (10, .int (ii x342_10)), (12, .int (ii x342_12)), (13, .int (ii x342_13)), (16, .int (ii x342_16))]) cx.1 cx.2.1 dX12_traits_342 hl (by decide) rfl (fun ls hl => ?_)
          refine lv_iload cx.1 cx.2.1 dX12_traits_344 (lv_at hl 7 rfl) ?_
          refine z_jn hf (fun j => ∀ (x371_7 : Int) (x371_8 : Int) (x371_10 : Int) (x371_11 : Int) (x371_12 : Int) (x371_13 : Int) (x371_16 : Int) (y371_0 : Int) (h : HF) (H : Heap) (locs : List Loc) (ls : Array Slot), rng x371_7 → rng x371_8 → rng x371_10 → rng x371_11 → rng x371_12 → rng x371_13 → rng x371_16 → rng y371_0 → Hp g B s h H locs → lv_has ls 21 [(0, .ref (B + u0)), (4, .int (ii u4)), (5, .int (ii u5)), (6, .int (ii u6)), (7, .int (ii x371_7)), (8, .int (ii x371_8)), (10, .int (ii x371_10)), (11, .int (ii x371_11)), (12, .int (ii x371_12)), (13, .int (ii x371_13)), (16, .int (ii x371_16))] → j x371_7 x371_8 x371_10 x371_11 x371_12 x371_13 x371_16 y371_0 h = some o → W p l e (rmn 3) s m args below meth c H locs 0 0 Q (F0 m 371 ls [.int (ii y371_0)])) ?_ (fun j371 hj371 hf => ?_)
          · intro x371_7 x371_8 x371_10 x371_11 x371_12 x371_13 x371_16 y371_0 h H locs ls rx371_7 rx371_8 rx371_10 rx371_11 rx371_12 rx371_13 rx371_16 ry371_0 hp hl hf
            refine lv_istore (lv' := [(9, .int (ii y371_0)), (0, .ref (B + u0)), (4, .int (ii u4)), (5, .int (ii u5)), (6, .int (ii u6)), (7, .int (ii x371_7)), (8, .int (ii x371_8)), (10, .int (ii x371_10)), (11, .int (ii x371_11)), (12, .int (ii x371_12)), (13, .int (ii x371_13)), (16, .int (ii x371_16))]) cx.1 cx.2.1 dX12_traits_371 hl (by decide) rfl (fun ls hl => ?_)
            refine lv_iload cx.1 cx.2.1 dX12_traits_373 (lv_at hl 9 rfl) ?_
            refine z_jn hf (fun j => ∀ (x388_7 : Int) (x388_8 : Int) (x388_9 : Int) (x388_10 : Int) (x388_11 : Int) (x388_13 : Int) (y388_0 : Int) (h : HF) (H : Heap) (locs : List Loc) (ls : Array Slot), rng x388_7 → rng x388_8 → rng x388_9 → rng x388_10 → rng x388_11 → rng x388_13 → rng y388_0 → Hp g B s h H locs → lv_has ls 21 [(0, .ref (B + u0)), (4, .int (ii u4)), (5, .int (ii u5)), (6, .int (ii u6)), (7, .int (ii x388_7)), (8, .int (ii x388_8)), (9, .int (ii x388_9)), (10, .int (ii x388_10)), (11, .int (ii x388_11)), (13, .int (ii x388_13))] → j x388_7 x388_8 x388_9 x388_10 x388_11 x388_13 y388_0 h = some o → W p l e (rmn 3) s m args below meth c H locs 0 0 Q (F0 m 388 ls [.int (ii y388_0)])) ?_ (fun j388 hj388 hf => ?_)
            · intro x388_7 x388_8 x388_9 x388_10 x388_11 x388_13 y388_0 h H locs ls rx388_7 rx388_8 rx388_9 rx388_10 rx388_11 rx388_13 ry388_0 hp hl hf
              refine lv_istore (lv' := [(12, .int (ii y388_0)), (0, .ref (B + u0)), (4, .int (ii u4)), (5, .int (ii u5)), (6, .int (ii u6)), (7, .int (ii x388_7)), (8, .int (ii x388_8)), (9, .int (ii x388_9)), (10, .int (ii x388_10)), (11, .int (ii x388_11)), (13, .int (ii x388_13))]) cx.1 cx.2.1 dX12_traits_388 hl (by decide) rfl (fun ls hl => ?_)
              refine z_iinc cx (fun x3 => [(13, .int (ii x3)), (12, .int (ii y388_0)), (0, .ref (B + u0)), (4, .int (ii u4)), (5, .int (ii u5)), (6, .int (ii u6)), (7, .int (ii x388_7)), (8, .int (ii x388_8)), (9, .int (ii x388_9)), (10, .int (ii x388_10)), (11, .int (ii x388_11))]) dX12_traits_390 hl (k := 10) rfl (by decide) (fun _ => rfl) hf (fun x3 rx3 hf ls hl => ?_)
              refine lv_goto (tgt := 53) cx.1 cx.2.1 dX12_traits_393 (by decide) ?_
              exact ih x388_7 x388_8 x388_9 x388_10 x388_11 y388_0 x3 h _ _ ls rx388_7 rx388_8 rx388_9 rx388_10 rx388_11 ry388_0 rx3 hp (lv_sub hl [2, 3, 4, 5, 6, 7, 8, 9, 10, 1, 0] rfl) hf
            refine z_jn hf (fun j => ∀ (x383_7 : Int) (x383_8 : Int) (x383_9 : Int) (x383_10 : Int) (x383_11 : Int) (x383_13 : Int) (h : HF) (H : Heap) (locs : List Loc) (ls : Array Slot), rng x383_7 → rng x383_8 → rng x383_9 → rng x383_10 → rng x383_11 → rng x383_13 → Hp g B s h H locs → lv_has ls 21 [(0, .ref (B + u0)), (4, .int (ii u4)), (5, .int (ii u5)), (6, .int (ii u6)), (7, .int (ii x383_7)), (8, .int (ii x383_8)), (9, .int (ii x383_9)), (10, .int (ii x383_10)), (11, .int (ii x383_11)), (13, .int (ii x383_13))] → j x383_7 x383_8 x383_9 x383_10 x383_11 x383_13 h = some o → W p l e (rmn 3) s m args below meth c H locs 0 0 Q (F0 m 383 ls [])) ?_ (fun j383 hj383 hf => ?_)
            · intro x383_7 x383_8 x383_9 x383_10 x383_11 x383_13 h H locs ls rx383_7 rx383_8 rx383_9 rx383_10 rx383_11 rx383_13 hp hl hf
              refine z_iconst cx dX12_traits_383 ?_
              refine lv_goto (tgt := 388) cx.1 cx.2.1 dX12_traits_384 (by decide) ?_
              exact hj388 x383_7 x383_8 x383_9 x383_10 x383_11 x383_13 1 h _ _ ls rx383_7 rx383_8 rx383_9 rx383_10 rx383_11 rx383_13 (by decide) hp (lv_sub hl [0, 1, 2, 3, 4, 5, 6, 7, 8, 9] rfl) hf
            refine z_if_ne cx rx371_12 (tgt := 383) dX12_traits_375 (by decide) hf (fun _ hf => ?_) (fun _ hf => ?_)
            · refine lv_iload cx.1 cx.2.1 dX12_traits_378 (lv_at hl 11 rfl) ?_
              refine z_if_eq cx rx371_16 (tgt := 387) dX12_traits_380 (by decide) hf (fun _ hf => ?_) (fun _ hf => ?_)
              · refine z_iconst cx dX12_traits_387 ?_
                exact hj388 x371_7 x371_8 y371_0 x371_10 x371_11 x371_13 0 h _ _ ls rx371_7 rx371_8 ry371_0 rx371_10 rx371_11 rx371_13 (by decide) hp (lv_sub hl [1, 2, 3, 4, 5, 6, 0, 7, 8, 10] rfl) hf
              · exact hj383 x371_7 x371_8 y371_0 x371_10 x371_11 x371_13 h _ _ ls rx371_7 rx371_8 ry371_0 rx371_10 rx371_11 rx371_13 hp (lv_sub hl [1, 2, 3, 4, 5, 6, 0, 7, 8, 10] rfl) hf
            · exact hj383 x371_7 x371_8 y371_0 x371_10 x371_11 x371_13 h _ _ ls rx371_7 rx371_8 ry371_0 rx371_10 rx371_11 rx371_13 hp (lv_sub hl [1, 2, 3, 4, 5, 6, 0, 7, 8, 10] rfl) hf
          refine z_jn hf (fun j => ∀ (x370_7 : Int) (x370_8 : Int) (x370_10 : Int) (x370_11 : Int) (x370_12 : Int) (x370_13 : Int) (x370_16 : Int) (h : HF) (H : Heap) (locs : List Loc) (ls : Array Slot), rng x370_7 → rng x370_8 → rng x370_10 → rng x370_11 → rng x370_12 → rng x370_13 → rng x370_16 → Hp g B s h H locs → lv_has ls 21 [(0, .ref (B + u0)), (4, .int (ii u4)), (5, .int (ii u5)), (6, .int (ii u6)), (7, .int (ii x370_7)), (8, .int (ii x370_8)), (10, .int (ii x370_10)), (11, .int (ii x370_11)), (12, .int (ii x370_12)), (13, .int (ii x370_13)), (16, .int (ii x370_16))] → j x370_7 x370_8 x370_10 x370_11 x370_12 x370_13 x370_16 h = some o → W p l e (rmn 3) s m args below meth c H locs 0 0 Q (F0 m 370 ls [])) ?_ (fun j370 hj370 hf => ?_)
          · intro x370_7 x370_8 x370_10 x370_11 x370_12 x370_13 x370_16 h H locs ls rx370_7 rx370_8 rx370_10 rx370_11 rx370_12 rx370_13 rx370_16 hp hl hf
            refine z_iconst cx dX12_traits_370 ?_
            exact hj371 x370_7 x370_8 x370_10 x370_11 x370_12 x370_13 x370_16 0 h _ _ ls rx370_7 rx370_8 rx370_10 rx370_11 rx370_12 rx370_13 rx370_16 (by decide) hp (lv_sub hl [0, 1, 2, 3, 4, 5, 6, 7, 8, 9, 10] rfl) hf
          refine z_if_eq cx rx342_9 (tgt := 370) dX12_traits_346 (by decide) hf (fun _ hf => ?_) (fun _ hf => ?_)
          · exact hj370 x342_7 x342_8 x342_10 y342_0 x342_12 x342_13 x342_16 h _ _ ls rx342_7 rx342_8 rx342_10 ry342_0 rx342_12 rx342_13 rx342_16 hp (lv_sub hl [1, 2, 3, 4, 5, 6, 8, 0, 9, 10, 11] rfl) hf
          · refine lv_aload_n cx.1 cx.2.1 dX12_traits_349 rfl (lv_at hl 1 rfl) ?_
            refine lv_iload cx.1 cx.2.1 dX12_traits_350 (lv_at hl 3 rfl) ?_
            refine lv_iload cx.1 cx.2.1 dX12_traits_352 (lv_at hl 4 rfl) ?_
            refine lv_iload cx.1 cx.2.1 dX12_traits_354 (lv_at hl 10 rfl) ?_
            refine lv_iload cx.1 cx.2.1 dX12_traits_356 (lv_at hl 10 rfl) ?_
            refine z_ci cx hp (fun o' hx => zrunV (n := 3) (As := [.int (ii u5), .int (ii u6), .int (ii x342_13), .int (ii x342_13)]) (rest := []) cx hp (mX12_value F l g B h u0 u5 u6 x342_13 x342_13 ru0 ru5 ru6 rx342_13 rx342_13 o' hx) 12 ru0 (by decide) rfl vw_X12_value ml_X12_178 (by decide) rfl hl.1 rfl (Nat.le_of_ble_eq_true rfl) dX12_traits_358) hf (fun r4 h H locs rr4 hp hf => ?_)
            refine lv_iload cx.1 cx.2.1 dX12_traits_361 (lv_at hl 10 rfl) ?_
            refine z_icmp_ne cx rr4 rx342_13 (tgt := 370) dX12_traits_363 (by decide) hf (fun _ hf => ?_) (fun _ hf => ?_)
            · refine z_iconst cx dX12_traits_366 ?_
              refine lv_goto (tgt := 371) cx.1 cx.2.1 dX12_traits_367 (by decide) ?_
              exact hj371 x342_7 x342_8 x342_10 y342_0 x342_12 x342_13 x342_16 1 h _ _ ls rx342_7 rx342_8 rx342_10 ry342_0 rx342_12 rx342_13 rx342_16 (by decide) hp (lv_sub hl [1, 2, 3, 4, 5, 6, 8, 0, 9, 10, 11] rfl) hf
            · exact hj370 x342_7 x342_8 x342_10 y342_0 x342_12 x342_13 x342_16 h _ _ ls rx342_7 rx342_8 rx342_10 ry342_0 rx342_12 rx342_13 rx342_16 hp (lv_sub hl [1, 2, 3, 4, 5, 6, 8, 0, 9, 10, 11] rfl) hf
        refine z_jn hf (fun j => ∀ (x341_7 : Int) (x341_8 : Int) (x341_9 : Int) (x341_10 : Int) (x341_12 : Int) (x341_13 : Int) (x341_16 : Int) (h : HF) (H : Heap) (locs : List Loc) (ls : Array Slot), rng x341_7 → rng x341_8 → rng x341_9 → rng x341_10 → rng x341_12 → rng x341_13 → rng x341_16 → Hp g B s h H locs → lv_has ls 21 [(0, .ref (B + u0)), (4, .int (ii u4)), (5, .int (ii u5)), (6, .int (ii u6)), (7, .int (ii x341_7)), (8, .int (ii x341_8)), (9, .int (ii x341_9)), (10, .int (ii x341_10)), (12, .int (ii x341_12)), (13, .int (ii x341_13)), (16, .int (ii x341_16))] → j x341_7 x341_8 x341_9 x341_10 x341_12 x341_13 x341_16 h = some o → W p l e (rmn 3) s m args below meth c H locs 0 0 Q (F0 m 341 ls [])) ?_ (fun j341 hj341 hf => ?_)
        · intro x341_7 x341_8 x341_9 x341_10 x341_12 x341_13 x341_16 h H locs ls rx341_7 rx341_8 rx341_9 rx341_10 rx341_12 rx341_13 rx341_16 hp hl hf
          refine z_iconst cx dX12_traits_341 ?_
          exact hj342 x341_7 x341_8 x341_9 x341_10 x341_12 x341_13 x341_16 0 h _ _ ls rx341_7 rx341_8 rx341_9 rx341_10 rx341_12 rx341_13 rx341_16 (by decide) hp (lv_sub hl [0, 1, 2, 3, 4, 5, 6, 7, 8, 9, 10] rfl) hf
        refine z_if_eq cx rx310_11 (tgt := 341) dX12_traits_312 (by decide) hf (fun _ hf => ?_) (fun _ hf => ?_)
        · exact hj341 x310_7 x310_8 x310_9 x310_10 x310_12 x310_13 x310_16 h _ _ ls rx310_7 rx310_8 rx310_9 rx310_10 rx310_12 rx310_13 rx310_16 hp (lv_sub hl [0, 1, 2, 3, 4, 5, 6, 7, 9, 10, 13] rfl) hf
        · refine lv_iload cx.1 cx.2.1 dX12_traits_315 (lv_at hl 11 rfl) ?_
          refine z_iconst cx dX12_traits_317 ?_
          refine lv_iload cx.1 cx.2.1 dX12_traits_318 (lv_at hl 1 rfl) ?_
          refine z_ishl cx dX12_traits_320 ?_
          refine z_iconst cx dX12_traits_321 ?_
          refine z_isub cx dX12_traits_322 ?_
          refine z_icmp_ne cx rx310_14 (rng_wr _) (tgt := 341) dX12_traits_323 (by decide) hf (fun _ hf => ?_) (fun _ hf => ?_)
          · refine lv_iload cx.1 cx.2.1 dX12_traits_326 (lv_at hl 12 rfl) ?_
            refine z_iconst cx dX12_traits_328 ?_
            refine lv_iload cx.1 cx.2.1 dX12_traits_329 (lv_at hl 1 rfl) ?_
            refine z_ishl cx dX12_traits_331 ?_
            refine z_iconst cx dX12_traits_332 ?_
            refine z_isub cx dX12_traits_333 ?_
            refine z_icmp_ne cx rx310_15 (rng_wr _) (tgt := 341) dX12_traits_334 (by decide) hf (fun _ hf => ?_) (fun _ hf => ?_)
            · refine z_iconst cx dX12_traits_337 ?_
              refine lv_goto (tgt := 342) cx.1 cx.2.1 dX12_traits_338 (by decide) ?_
              exact hj342 x310_7 x310_8 x310_9 x310_10 x310_12 x310_13 x310_16 1 h _ _ ls rx310_7 rx310_8 rx310_9 rx310_10 rx310_12 rx310_13 rx310_16 (by decide) hp (lv_sub hl [0, 1, 2, 3, 4, 5, 6, 7, 9, 10, 13] rfl) hf
            · exact hj341 x310_7 x310_8 x310_9 x310_10 x310_12 x310_13 x310_16 h _ _ ls rx310_7 rx310_8 rx310_9 rx310_10 rx310_12 rx310_13 rx310_16 hp (lv_sub hl [0, 1, 2, 3, 4, 5, 6, 7, 9, 10, 13] rfl) hf
          · exact hj341 x310_7 x310_8 x310_9 x310_10 x310_12 x310_13 x310_16 h _ _ ls rx310_7 rx310_8 rx310_9 rx310_10 rx310_12 rx310_13 rx310_16 hp (lv_sub hl [0, 1, 2, 3, 4, 5, 6, 7, 9, 10, 13] rfl) hf
      exact wX12_traits_72 F cx u0 ru0 u4 ru4 u5 ru5 u6 ru6 v9 rv9 v11 rv11 v12 rv12 v13 rv13 j310 hj310 F v7 v8 v10 0 0 1 0 h _ _ ls rv7 rv8 rv10 (by decide) (by decide) (by decide) (by decide) hp (lv_sub hl [4, 5, 6, 7, 8, 9, 10, 11, 12, 13, 14, 3, 2, 1, 0] rfl) hf
    · exact hk396 v7 v8 v9 v10 v11 v12 h _ _ ls rv7 rv8 rv9 rv10 rv11 rv12 hp (lv_sub hl [4, 5, 6, 7, 8, 9] rfl) hf
def fX12_traits (F : Nat) (a0 : Nat) (a1 : Int) (a2 : Int) (h : HF) : RO :=
  zpf h a0 0 0 fun h =>
  zbd (fX12_refuseTwo F a0 a1 a2 h) fun r1 h =>
  if r1 = 0 then (
    zrd h (a0 + 3) a1 fun x2 =>
    zjn (fun (x396_7 : Int) (x396_8 : Int) (x396_9 : Int) (x396_10 : Int) (x396_11 : Int) (x396_12 : Int) (h : HF) => (
      zjn (fun (x406_8 : Int) (x406_9 : Int) (x406_10 : Int) (x406_11 : Int) (x406_12 : Int) (y406_0 : Int) (h : HF) => (
        zjn (fun (x416_9 : Int) (x416_10 : Int) (x416_11 : Int) (x416_12 : Int) (y416_0 : Int) (y416_1 : Int) (h : HF) => (
          zjn (fun (x427_9 : Int) (x427_10 : Int) (x427_11 : Int) (y427_0 : Int) (y427_1 : Int) (h : HF) => (
            zjn (fun (x439_9 : Int) (x439_10 : Int) (y439_0 : Int) (y439_1 : Int) (h : HF) => (
              zjn (fun (x451_10 : Int) (y451_0 : Int) (y451_1 : Int) (h : HF) => (
                zjn (fun (y463_0 : Int) (y463_1 : Int) (h : HF) => (
                  some (wr (y463_1 + y463_0), h)
                )) fun j463 =>
                if x451_10 = 0 then (
                  j463 0 (wr (y451_1 + y451_0)) h
                ) else (
                  j463 32 (wr (y451_1 + y451_0)) h
                )
              )) fun j451 =>
              if x439_9 = 0 then (
                j451 x439_10 0 (wr (y439_1 + y439_0)) h
              ) else (
                j451 x439_10 16 (wr (y439_1 + y439_0)) h
              )
            )) fun j439 =>
            if x427_11 = 0 then (
              j439 x427_9 x427_10 0 (wr (y427_1 + y427_0)) h
            ) else (
              j439 x427_9 x427_10 8 (wr (y427_1 + y427_0)) h
            )
          )) fun j427 =>
          if x416_12 = 0 then (
            j427 x416_9 x416_10 x416_11 0 (wr (y416_1 + y416_0)) h
          ) else (
            j427 x416_9 x416_10 x416_11 4 (wr (y416_1 + y416_0)) h
          )
        )) fun j416 =>
        if x406_8 = 0 then (
          j416 x406_9 x406_10 x406_11 x406_12 0 y406_0 h
        ) else (
          j416 x406_9 x406_10 x406_11 x406_12 2 y406_0 h
        )
      )) fun j406 =>
      if x396_7 = 0 then (
        j406 x396_8 x396_9 x396_10 x396_11 x396_12 0 h
      ) else (
        j406 x396_8 x396_9 x396_10 x396_11 x396_12 1 h
      )
    )) fun j396 =>
    LX12_traits_53 F a0 x2 a1 a2 j396 F 1 1 1 1 1 0 0 h
  ) else (
    some (r1, h)
  )
set_option maxHeartbeats 4000000 in
set_option maxRecDepth 100000 in
theorem mX12_traits (F : Nat) (l : Launch) (g : zG) (B : Nat) (h : HF) (a0 : Nat) (a1 : Int) (a2 : Int) (ra0 : kt a0 = 15) (ra1 : rng a1) (ra2 : rng a2) : CTi l g B yX12_traits cX12_traits 21 (some .int) 3 [.ref (B + a0), .int (ii a1), .int (ii a2)] h (fX12_traits F a0 a1 a2 h) := by
  refine z_enterI (by decide) rfl (Nat.le_of_ble_eq_true rfl) ?_
  intro p e s m args below meth c ls o Q cx hp hl hf hQ
  have hl : lv_has ls 21 [(0, .ref (B + a0)), (1, .int (ii a1)), (2, .int (ii a2))] := hl
  unfold fX12_traits at hf
  refine lv_aload_n cx.1 cx.2.1 dX12_traits_0 rfl (lv_at hl 0 rfl) ?_
  refine z_iconst cx dX12_traits_1 ?_
  refine z_puti cx hp (T := TX12) tyX12 tyX12_ok nmX12 12 0 (by decide) rfl zin_12 (by decide) (by decide) ra0 rfl rfl rfl fl_X12_115 dX12_traits_2 hf (fun h H locs hp hf => ?_)
  refine lv_aload_n cx.1 cx.2.1 dX12_traits_5 rfl (lv_at hl 0 rfl) ?_
  refine lv_iload_n cx.1 cx.2.1 dX12_traits_6 rfl (lv_at hl 1 rfl) ?_
  refine lv_iload_n cx.1 cx.2.1 dX12_traits_7 rfl (lv_at hl 2 rfl) ?_
  refine z_ci cx hp (fun o' hx => zrunV (n := 3) (As := [.int (ii a1), .int (ii a2)]) (rest := []) cx hp (mX12_refuseTwo F l g B h a0 a1 a2 ra0 ra1 ra2 o' hx) 12 ra0 (by decide) rfl vw_X12_refuseTwo ml_X12_181 (by decide) rfl hl.1 rfl (Nat.le_of_ble_eq_true rfl) dX12_traits_8) hf (fun r1 h H locs rr1 hp hf => ?_)
  refine lv_istore_n (lv' := [(3, .int (ii r1)), (0, .ref (B + a0)), (1, .int (ii a1)), (2, .int (ii a2))]) cx.1 cx.2.1 dX12_traits_11 rfl hl (by decide) rfl (fun ls hl => ?_)
  refine lv_iload_n cx.1 cx.2.1 dX12_traits_12 rfl (lv_at hl 0 rfl) ?_
  refine z_if_eq cx rr1 (tgt := 18) dX12_traits_13 (by decide) hf (fun _ hf => ?_) (fun _ hf => ?_)
  · refine lv_aload_n cx.1 cx.2.1 dX12_traits_18 rfl (lv_at hl 1 rfl) ?_
    refine z_gets cx hp (T := TX12) 12 6 (a0 + 3) rfl zin_12 (by decide) (by decide) ra0 rfl fl_X12_16 dX12_traits_19 ?_
    refine lv_iload_n cx.1 cx.2.1 dX12_traits_22 rfl (lv_at hl 2 rfl) ?_
    refine z_iald cx hp (zs_12_6 a0 (kt_lt ra0 (by decide)) ra0) ra1 dX12_traits_23 hf (fun x2 rx2 hf => ?_)
    refine lv_istore (lv' := [(4, .int (ii x2)), (3, .int (ii r1)), (0, .ref (B + a0)), (1, .int (ii a1)), (2, .int (ii a2))]) cx.1 cx.2.1 dX12_traits_24 hl (by decide) rfl (fun ls hl => ?_)
    refine lv_iload_n cx.1 cx.2.1 dX12_traits_26 rfl (lv_at hl 3 rfl) ?_
    refine lv_istore (lv' := [(5, .int (ii a1)), (4, .int (ii x2)), (3, .int (ii r1)), (0, .ref (B + a0)), (1, .int (ii a1)), (2, .int (ii a2))]) cx.1 cx.2.1 dX12_traits_27 hl (by decide) rfl (fun ls hl => ?_)
    refine lv_iload_n cx.1 cx.2.1 dX12_traits_29 rfl (lv_at hl 5 rfl) ?_
    refine lv_istore (lv' := [(6, .int (ii a2)), (5, .int (ii a1)), (4, .int (ii x2)), (3, .int (ii r1)), (0, .ref (B + a0)), (1, .int (ii a1)), (2, .int (ii a2))]) cx.1 cx.2.1 dX12_traits_30 hl (by decide) rfl (fun ls hl => ?_)
    refine z_iconst cx dX12_traits_32 ?_
    refine lv_istore (lv' := [(7, .int (ii 1)), (6, .int (ii a2)), (5, .int (ii a1)), (4, .int (ii x2)), (3, .int (ii r1)), (0, .ref (B + a0)), (1, .int (ii a1)), (2, .int (ii a2))]) cx.1 cx.2.1 dX12_traits_33 hl (by decide) rfl (fun ls hl => ?_)
    refine z_iconst cx dX12_traits_35 ?_
    refine lv_istore (lv' := [(8, .int (ii 1)), (7, .int (ii 1)), (6, .int (ii a2)), (5, .int (ii a1)), (4, .int (ii x2)), (3, .int (ii r1)), (0, .ref (B + a0)), (1, .int (ii a1)), (2, .int (ii a2))]) cx.1 cx.2.1 dX12_traits_36 hl (by decide) rfl (fun ls hl => ?_)
    refine z_iconst cx dX12_traits_38 ?_
    refine lv_istore (lv' := [(9, .int (ii 1)), (8, .int (ii 1)), (7, .int (ii 1)), (6, .int (ii a2)), (5, .int (ii a1)), (4, .int (ii x2)), (3, .int (ii r1)), (0, .ref (B + a0)), (1, .int (ii a1)), (2, .int (ii a2))]) cx.1 cx.2.1 dX12_traits_39 hl (by decide) rfl (fun ls hl => ?_)
    refine z_iconst cx dX12_traits_41 ?_
    refine lv_istore (lv' := [(10, .int (ii 1)), (9, .int (ii 1)), (8, .int (ii 1)), (7, .int (ii 1)), (6, .int (ii a2)), (5, .int (ii a1)), (4, .int (ii x2)), (3, .int (ii r1)), (0, .ref (B + a0)), (1, .int (ii a1)), (2, .int (ii a2))]) cx.1 cx.2.1 dX12_traits_42 hl (by decide) rfl (fun ls hl => ?_)
    refine z_iconst cx dX12_traits_44 ?_
    refine lv_istore (lv' := [(11, .int (ii 1)), (10, .int (ii 1)), (9, .int (ii 1)), (8, .int (ii 1)), (7, .int (ii 1)), (6, .int (ii a2)), (5, .int (ii a1)), (4, .int (ii x2)), (3, .int (ii r1)), (0, .ref (B + a0)), (1, .int (ii a1)), (2, .int (ii a2))]) cx.1 cx.2.1 dX12_traits_45 hl (by decide) rfl (fun ls hl => ?_)
    refine z_iconst cx dX12_traits_47 ?_
    refine lv_istore (lv' := [(12, .int (ii 0)), (11, .int (ii 1)), (10, .int (ii 1)), (9, .int (ii 1)), (8, .int (ii 1)), (7, .int (ii 1)), (6, .int (ii a2)), (5, .int (ii a1)), (4, .int (ii x2)), (3, .int (ii r1)), (0, .ref (B + a0)), (1, .int (ii a1)), (2, .int (ii a2))]) cx.1 cx.2.1 dX12_traits_48 hl (by decide) rfl (fun ls hl => ?_)
    refine z_iconst cx dX12_traits_50 ?_
    refine lv_istore (lv' := [(13, .int (ii 0)), (12, .int (ii 0)), (11, .int (ii 1)), (10, .int (ii 1)), (9, .int (ii 1)), (8, .int (ii 1)), (7, .int (ii 1)), (6, .int (ii a2)), (5, .int (ii a1)), (4, .int (ii x2)), (3, .int (ii r1)), (0, .ref (B + a0)), (1, .int (ii a1)), (2, .int (ii a2))]) cx.1 cx.2.1 dX12_traits_51 hl (by decide) rfl (fun ls hl => ?_)
    refine z_jn hf (fun j => ∀ (x396_7 : Int) (x396_8 : Int) (x396_9 : Int) (x396_10 : Int) (x396_11 : Int) (x396_12 : Int) (h : HF) (H : Heap) (locs : List Loc) (ls : Array Slot), rng x396_7 → rng x396_8 → rng x396_9 → rng x396_10 → rng x396_11 → rng x396_12 → Hp g B s h H locs → lv_has ls 21 [(7, .int (ii x396_7)), (8, .int (ii x396_8)), (9, .int (ii x396_9)), (10, .int (ii x396_10)), (11, .int (ii x396_11)), (12, .int (ii x396_12))] → j x396_7 x396_8 x396_9 x396_10 x396_11 x396_12 h = some o → W p l e (rmn 3) s m args below meth c H locs 0 0 Q (F0 m 396 ls [])) ?_ (fun j396 hj396 hf => ?_)
    · intro x396_7 x396_8 x396_9 x396_10 x396_11 x396_12 h H locs ls rx396_7 rx396_8 rx396_9 rx396_10 rx396_11 rx396_12 hp hl hf
      refine lv_iload cx.1 cx.2.1 dX12_traits_396 (lv_at hl 0 rfl) ?_
      refine z_jn hf (fun j => ∀ (x406_8 : Int) (x406_9 : Int) (x406_10 : Int) (x406_11 : Int) (x406_12 : Int) (y406_0 : Int) (h : HF) (H : Heap) (locs : List Loc) (ls : Array Slot), rng x406_8 → rng x406_9 → rng x406_10 → rng x406_11 → rng x406_12 → rng y406_0 → Hp g B s h H locs → lv_has ls 21 [(8, .int (ii x406_8)), (9, .int (ii x406_9)), (10, .int (ii x406_10)), (11, .int (ii x406_11)), (12, .int (ii x406_12))] → j x406_8 x406_9 x406_10 x406_11 x406_12 y406_0 h = some o → W p l e (rmn 3) s m args below meth c H locs 0 0 Q (F0 m 406 ls [.int (ii y406_0)])) ?_ (fun j406 hj406 hf => ?_)
      · intro x406_8 x406_9 x406_10 x406_11 x406_12 y406_0 h H locs ls rx406_8 rx406_9 rx406_10 rx406_11 rx406_12 ry406_0 hp hl hf
        refine lv_iload cx.1 cx.2.1 dX12_traits_406 (lv_at hl 0 rfl) ?_
        refine z_jn hf (fun j => ∀ (x416_9 : Int) (x416_10 : Int) (x416_11 : Int) (x416_12 : Int) (y416_0 : Int) (y416_1 : Int) (h : HF) (H : Heap) (locs : List Loc) (ls : Array Slot), rng x416_9 → rng x416_10 → rng x416_11 → rng x416_12 → rng y416_0 → rng y416_1 → Hp g B s h H locs → lv_has ls 21 [(9, .int (ii x416_9)), (10, .int (ii x416_10)), (11, .int (ii x416_11)), (12, .int (ii x416_12))] → j x416_9 x416_10 x416_11 x416_12 y416_0 y416_1 h = some o → W p l e (rmn 3) s m args below meth c H locs 0 0 Q (F0 m 416 ls [.int (ii y416_0), .int (ii y416_1)])) ?_ (fun j416 hj416 hf => ?_)
        · intro x416_9 x416_10 x416_11 x416_12 y416_0 y416_1 h H locs ls rx416_9 rx416_10 rx416_11 rx416_12 ry416_0 ry416_1 hp hl hf
          refine z_iadd cx dX12_traits_416 ?_
          refine lv_iload cx.1 cx.2.1 dX12_traits_417 (lv_at hl 3 rfl) ?_
          refine z_jn hf (fun j => ∀ (x427_9 : Int) (x427_10 : Int) (x427_11 : Int) (y427_0 : Int) (y427_1 : Int) (h : HF) (H : Heap) (locs : List Loc) (ls : Array Slot), rng x427_9 → rng x427_10 → rng x427_11 → rng y427_0 → rng y427_1 → Hp g B s h H locs → lv_has ls 21 [(9, .int (ii x427_9)), (10, .int (ii x427_10)), (11, .int (ii x427_11))] → j x427_9 x427_10 x427_11 y427_0 y427_1 h = some o → W p l e (rmn 3) s m args below meth c H locs 0 0 Q (F0 m 427 ls [.int (ii y427_0), .int (ii y427_1)])) ?_ (fun j427 hj427 hf => ?_)
          · intro x427_9 x427_10 x427_11 y427_0 y427_1 h H locs ls rx427_9 rx427_10 rx427_11 ry427_0 ry427_1 hp hl hf
            refine z_iadd cx dX12_traits_427 ?_
            refine lv_iload cx.1 cx.2.1 dX12_traits_428 (lv_at hl 2 rfl) ?_
            refine z_jn hf (fun j => ∀ (x439_9 : Int) (x439_10 : Int) (y439_0 : Int) (y439_1 : Int) (h : HF) (H : Heap) (locs : List Loc) (ls : Array Slot), rng x439_9 → rng x439_10 → rng y439_0 → rng y439_1 → Hp g B s h H locs → lv_has ls 21 [(9, .int (ii x439_9)), (10, .int (ii x439_10))] → j x439_9 x439_10 y439_0 y439_1 h = some o → W p l e (rmn 3) s m args below meth c H locs 0 0 Q (F0 m 439 ls [.int (ii y439_0), .int (ii y439_1)])) ?_ (fun j439 hj439 hf => ?_)
            · intro x439_9 x439_10 y439_0 y439_1 h H locs ls rx439_9 rx439_10 ry439_0 ry439_1 hp hl hf
              refine z_iadd cx dX12_traits_439 ?_
              refine lv_iload cx.1 cx.2.1 dX12_traits_440 (lv_at hl 0 rfl) ?_
              refine z_jn hf (fun j => ∀ (x451_10 : Int) (y451_0 : Int) (y451_1 : Int) (h : HF) (H : Heap) (locs : List Loc) (ls : Array Slot), rng x451_10 → rng y451_0 → rng y451_1 → Hp g B s h H locs → lv_has ls 21 [(10, .int (ii x451_10))] → j x451_10 y451_0 y451_1 h = some o → W p l e (rmn 3) s m args below meth c H locs 0 0 Q (F0 m 451 ls [.int (ii y451_0), .int (ii y451_1)])) ?_ (fun j451 hj451 hf => ?_)
              · intro x451_10 y451_0 y451_1 h H locs ls rx451_10 ry451_0 ry451_1 hp hl hf
                refine z_iadd cx dX12_traits_451 ?_
                refine lv_iload cx.1 cx.2.1 dX12_traits_452 (lv_at hl 0 rfl) ?_
                refine z_jn hf (fun j => ∀ (y463_0 : Int) (y463_1 : Int) (h : HF) (H : Heap) (locs : List Loc) (ls : Array Slot), rng y463_0 → rng y463_1 → Hp g B s h H locs → lv_has ls 21 [] → j y463_0 y463_1 h = some o → W p l e (rmn 3) s m args below meth c H locs 0 0 Q (F0 m 463 ls [.int (ii y463_0), .int (ii y463_1)])) ?_ (fun j463 hj463 hf => ?_)
                · intro y463_0 y463_1 h H locs ls ry463_0 ry463_1 hp hl hf
                  refine z_iadd cx dX12_traits_463 ?_
                  rw [hQ]; exact z_iret cx hp (rng_wr _) dX12_traits_464 hf
                refine z_if_eq cx rx451_10 (tgt := 462) dX12_traits_454 (by decide) hf (fun _ hf => ?_) (fun _ hf => ?_)
                · refine z_iconst cx dX12_traits_462 ?_
                  exact hj463 0 (wr (y451_1 + y451_0)) h _ _ ls (by decide) (rng_wr _) hp (lv_sub hl [] rfl) hf
                · refine z_bipush cx (by decide) dX12_traits_457 ?_
                  refine lv_goto (tgt := 463) cx.1 cx.2.1 dX12_traits_459 (by decide) ?_
                  exact hj463 32 (wr (y451_1 + y451_0)) h _ _ ls (by decide) (rng_wr _) hp (lv_sub hl [] rfl) hf
              refine z_if_eq cx rx439_9 (tgt := 450) dX12_traits_442 (by decide) hf (fun _ hf => ?_) (fun _ hf => ?_)
              · refine z_iconst cx dX12_traits_450 ?_
                exact hj451 x439_10 0 (wr (y439_1 + y439_0)) h _ _ ls rx439_10 (by decide) (rng_wr _) hp (lv_sub hl [1] rfl) hf
              · refine z_bipush cx (by decide) dX12_traits_445 ?_
                refine lv_goto (tgt := 451) cx.1 cx.2.1 dX12_traits_447 (by decide) ?_
                exact hj451 x439_10 16 (wr (y439_1 + y439_0)) h _ _ ls rx439_10 (by decide) (rng_wr _) hp (lv_sub hl [1] rfl) hf
            refine z_if_eq cx rx427_11 (tgt := 438) dX12_traits_430 (by decide) hf (fun _ hf => ?_) (fun _ hf => ?_)
            · refine z_iconst cx dX12_traits_438 ?_
              exact hj439 x427_9 x427_10 0 (wr (y427_1 + y427_0)) h _ _ ls rx427_9 rx427_10 (by decide) (rng_wr _) hp (lv_sub hl [0, 1] rfl) hf
            · refine z_bipush cx (by decide) dX12_traits_433 ?_
              refine lv_goto (tgt := 439) cx.1 cx.2.1 dX12_traits_435 (by decide) ?_
              exact hj439 x427_9 x427_10 8 (wr (y427_1 + y427_0)) h _ _ ls rx427_9 rx427_10 (by decide) (rng_wr _) hp (lv_sub hl [0, 1] rfl) hf
          refine z_if_eq cx rx416_12 (tgt := 426) dX12_traits_419 (by decide) hf (fun _ hf => ?_) (fun _ hf => ?_)
          · refine z_iconst cx dX12_traits_426 ?_
            exact hj427 x416_9 x416_10 x416_11 0 (wr (y416_1 + y416_0)) h _ _ ls rx416_9 rx416_10 rx416_11 (by decide) (rng_wr _) hp (lv_sub hl [0, 1, 2] rfl) hf
          · refine z_iconst cx dX12_traits_422 ?_
            refine lv_goto (tgt := 427) cx.1 cx.2.1 dX12_traits_423 (by decide) ?_
            exact hj427 x416_9 x416_10 x416_11 4 (wr (y416_1 + y416_0)) h _ _ ls rx416_9 rx416_10 rx416_11 (by decide) (rng_wr _) hp (lv_sub hl [0, 1, 2] rfl) hf
        refine z_if_eq cx rx406_8 (tgt := 415) dX12_traits_408 (by decide) hf (fun _ hf => ?_) (fun _ hf => ?_)
        · refine z_iconst cx dX12_traits_415 ?_
          exact hj416 x406_9 x406_10 x406_11 x406_12 0 y406_0 h _ _ ls rx406_9 rx406_10 rx406_11 rx406_12 (by decide) ry406_0 hp (lv_sub hl [1, 2, 3, 4] rfl) hf
        · refine z_iconst cx dX12_traits_411 ?_
          refine lv_goto (tgt := 416) cx.1 cx.2.1 dX12_traits_412 (by decide) ?_
          exact hj416 x406_9 x406_10 x406_11 x406_12 2 y406_0 h _ _ ls rx406_9 rx406_10 rx406_11 rx406_12 (by decide) ry406_0 hp (lv_sub hl [1, 2, 3, 4] rfl) hf
      refine z_if_eq cx rx396_7 (tgt := 405) dX12_traits_398 (by decide) hf (fun _ hf => ?_) (fun _ hf => ?_)
      · refine z_iconst cx dX12_traits_405 ?_
        exact hj406 x396_8 x396_9 x396_10 x396_11 x396_12 0 h _ _ ls rx396_8 rx396_9 rx396_10 rx396_11 rx396_12 (by decide) hp (lv_sub hl [1, 2, 3, 4, 5] rfl) hf
      · refine z_iconst cx dX12_traits_401 ?_
        refine lv_goto (tgt := 406) cx.1 cx.2.1 dX12_traits_402 (by decide) ?_
        exact hj406 x396_8 x396_9 x396_10 x396_11 x396_12 1 h _ _ ls rx396_8 rx396_9 rx396_10 rx396_11 rx396_12 (by decide) hp (lv_sub hl [1, 2, 3, 4, 5] rfl) hf
    exact wX12_traits_53 F cx a0 ra0 x2 rx2 a1 ra1 a2 ra2 j396 hj396 F 1 1 1 1 1 0 0 h _ _ ls (by decide) (by decide) (by decide) (by decide) (by decide) (by decide) (by decide) hp (lv_sub hl [11, 9, 8, 7, 6, 5, 4, 3, 2, 1, 0] rfl) hf
  · refine lv_iload_n cx.1 cx.2.1 dX12_traits_16 rfl (lv_at hl 0 rfl) ?_
    rw [hQ]; exact z_iret cx hp rr1 dX12_traits_17 hf
theorem dX12_powers_0 : decode cX12_powers 0 = .ok (.aload_n 0, 1) := by decide +kernel
theorem dX12_powers_1 : decode cX12_powers 1 = .ok (.iconst 0, 1) := by decide +kernel
theorem dX12_powers_2 : decode cX12_powers 2 = .ok (.putfield 115, 3) := by decide +kernel
theorem dX12_powers_5 : decode cX12_powers 5 = .ok (.aload_n 0, 1) := by decide +kernel
theorem dX12_powers_6 : decode cX12_powers 6 = .ok (.iload_n 1, 1) := by decide +kernel
theorem dX12_powers_7 : decode cX12_powers 7 = .ok (.invokevirtual 168, 3) := by decide +kernel
theorem dX12_powers_10 : decode cX12_powers 10 = .ok (.istore 4, 2) := by decide +kernel
theorem dX12_powers_12 : decode cX12_powers 12 = .ok (.iload 4, 2) := by decide +kernel
theorem dX12_powers_14 : decode cX12_powers 14 = .ok (.ifCond .eq 6, 3) := by decide +kernel
theorem dX12_powers_17 : decode cX12_powers 17 = .ok (.iload 4, 2) := by decide +kernel
theorem dX12_powers_19 : decode cX12_powers 19 = .ok (.ireturn, 1) := by decide +kernel
theorem dX12_powers_20 : decode cX12_powers 20 = .ok (.aload_n 0, 1) := by decide +kernel
theorem dX12_powers_21 : decode cX12_powers 21 = .ok (.iload_n 1, 1) := by decide +kernel
theorem dX12_powers_22 : decode cX12_powers 22 = .ok (.iload_n 2, 1) := by decide +kernel
theorem dX12_powers_23 : decode cX12_powers 23 = .ok (.invokevirtual 171, 3) := by decide +kernel
theorem dX12_powers_26 : decode cX12_powers 26 = .ok (.ifCond .eq 12, 3) := by decide +kernel
theorem dX12_powers_29 : decode cX12_powers 29 = .ok (.aload_n 0, 1) := by decide +kernel
theorem dX12_powers_30 : decode cX12_powers 30 = .ok (.iload_n 1, 1) := by decide +kernel
theorem dX12_powers_31 : decode cX12_powers 31 = .ok (.iload_n 3, 1) := by decide +kernel
theorem dX12_powers_32 : decode cX12_powers 32 = .ok (.invokevirtual 164, 3) := by decide +kernel
theorem dX12_powers_35 : decode cX12_powers 35 = .ok (.ifCond .ne 6, 3) := by decide +kernel
theorem dX12_powers_41 : decode cX12_powers 41 = .ok (.aload_n 0, 1) := by decide +kernel
theorem dX12_powers_42 : decode cX12_powers 42 = .ok (.iload_n 1, 1) := by decide +kernel
theorem dX12_powers_43 : decode cX12_powers 43 = .ok (.iload_n 2, 1) := by decide +kernel
theorem dX12_powers_44 : decode cX12_powers 44 = .ok (.invokevirtual 129, 3) := by decide +kernel
theorem dX12_powers_47 : decode cX12_powers 47 = .ok (.iconst 2, 1) := by decide +kernel
theorem dX12_powers_48 : decode cX12_powers 48 = .ok (.if_icmp .eq 6, 3) := by decide +kernel
theorem dX12_powers_51 : decode cX12_powers 51 = .ok (.bipush (-12), 2) := by decide +kernel
theorem dX12_powers_53 : decode cX12_powers 53 = .ok (.ireturn, 1) := by decide +kernel
theorem dX12_powers_54 : decode cX12_powers 54 = .ok (.iconst 0, 1) := by decide +kernel
theorem dX12_powers_55 : decode cX12_powers 55 = .ok (.istore 5, 2) := by decide +kernel
theorem dX12_powers_57 : decode cX12_powers 57 = .ok (.iload 5, 2) := by decide +kernel
theorem dX12_powers_59 : decode cX12_powers 59 = .ok (.bipush 7, 2) := by decide +kernel
theorem dX12_powers_61 : decode cX12_powers 61 = .ok (.if_icmp .ge 17, 3) := by decide +kernel
theorem dX12_powers_64 : decode cX12_powers 64 = .ok (.aload_n 0, 1) := by decide +kernel
theorem dX12_powers_65 : decode cX12_powers 65 = .ok (.getfield 43, 3) := by decide +kernel
theorem dX12_powers_68 : decode cX12_powers 68 = .ok (.iload 5, 2) := by decide +kernel
theorem dX12_powers_70 : decode cX12_powers 70 = .ok (.iconst (-1), 1) := by decide +kernel
theorem dX12_powers_71 : decode cX12_powers 71 = .ok (.iastore, 1) := by decide +kernel
theorem dX12_powers_72 : decode cX12_powers 72 = .ok (.iinc 5 1, 3) := by decide +kernel
theorem dX12_powers_75 : decode cX12_powers 75 = .ok (.goto (-18), 3) := by decide +kernel
theorem dX12_powers_78 : decode cX12_powers 78 = .ok (.iload_n 3, 1) := by decide +kernel
theorem dX12_powers_79 : decode cX12_powers 79 = .ok (.istore 5, 2) := by decide +kernel
theorem dX12_powers_81 : decode cX12_powers 81 = .ok (.iconst 0, 1) := by decide +kernel
theorem dX12_powers_82 : decode cX12_powers 82 = .ok (.istore 6, 2) := by decide +kernel
theorem dX12_powers_84 : decode cX12_powers 84 = .ok (.aload_n 0, 1) := by decide +kernel
theorem dX12_powers_85 : decode cX12_powers 85 = .ok (.getfield 43, 3) := by decide +kernel
theorem dX12_powers_88 : decode cX12_powers 88 = .ok (.iload 5, 2) := by decide +kernel
theorem dX12_powers_90 : decode cX12_powers 90 = .ok (.iaload, 1) := by decide +kernel
theorem dX12_powers_91 : decode cX12_powers 91 = .ok (.iconst (-1), 1) := by decide +kernel
theorem dX12_powers_92 : decode cX12_powers 92 = .ok (.if_icmp .ne 29, 3) := by decide +kernel
theorem dX12_powers_95 : decode cX12_powers 95 = .ok (.aload_n 0, 1) := by decide +kernel
theorem dX12_powers_96 : decode cX12_powers 96 = .ok (.getfield 43, 3) := by decide +kernel
theorem dX12_powers_99 : decode cX12_powers 99 = .ok (.iload 5, 2) := by decide +kernel
theorem dX12_powers_101 : decode cX12_powers 101 = .ok (.iload 6, 2) := by decide +kernel
theorem dX12_powers_103 : decode cX12_powers 103 = .ok (.iastore, 1) := by decide +kernel
theorem dX12_powers_104 : decode cX12_powers 104 = .ok (.iinc 6 1, 3) := by decide +kernel
theorem dX12_powers_107 : decode cX12_powers 107 = .ok (.aload_n 0, 1) := by decide +kernel
theorem dX12_powers_108 : decode cX12_powers 108 = .ok (.iload_n 1, 1) := by decide +kernel
theorem dX12_powers_109 : decode cX12_powers 109 = .ok (.iload_n 2, 1) := by decide +kernel
theorem dX12_powers_110 : decode cX12_powers 110 = .ok (.iload 5, 2) := by decide +kernel
theorem dX12_powers_112 : decode cX12_powers 112 = .ok (.iload_n 3, 1) := by decide +kernel
theorem dX12_powers_113 : decode cX12_powers 113 = .ok (.invokevirtual 178, 3) := by decide +kernel
theorem dX12_powers_116 : decode cX12_powers 116 = .ok (.istore 5, 2) := by decide +kernel
theorem dX12_powers_118 : decode cX12_powers 118 = .ok (.goto (-34), 3) := by decide +kernel
theorem dX12_powers_121 : decode cX12_powers 121 = .ok (.bipush 10, 2) := by decide +kernel
theorem dX12_powers_123 : decode cX12_powers 123 = .ok (.aload_n 0, 1) := by decide +kernel
theorem dX12_powers_124 : decode cX12_powers 124 = .ok (.getfield 43, 3) := by decide +kernel
theorem dX12_powers_127 : decode cX12_powers 127 = .ok (.iload 5, 2) := by decide +kernel
theorem dX12_powers_129 : decode cX12_powers 129 = .ok (.iaload, 1) := by decide +kernel
theorem dX12_powers_130 : decode cX12_powers 130 = .ok (.imul, 1) := by decide +kernel
theorem dX12_powers_131 : decode cX12_powers 131 = .ok (.iload 6, 2) := by decide +kernel
theorem dX12_powers_133 : decode cX12_powers 133 = .ok (.iadd, 1) := by decide +kernel
theorem dX12_powers_134 : decode cX12_powers 134 = .ok (.aload_n 0, 1) := by decide +kernel
theorem dX12_powers_135 : decode cX12_powers 135 = .ok (.getfield 43, 3) := by decide +kernel
theorem dX12_powers_138 : decode cX12_powers 138 = .ok (.iload 5, 2) := by decide +kernel
theorem dX12_powers_140 : decode cX12_powers 140 = .ok (.iaload, 1) := by decide +kernel
theorem dX12_powers_141 : decode cX12_powers 141 = .ok (.isub, 1) := by decide +kernel
theorem dX12_powers_142 : decode cX12_powers 142 = .ok (.ireturn, 1) := by decide +kernel
theorem dX12_powers_38 : decode cX12_powers 38 = .ok (.bipush (-3), 2) := by decide +kernel
theorem dX12_powers_40 : decode cX12_powers 40 = .ok (.ireturn, 1) := by decide +kernel
def LX12_powers_84 (F : Nat) (u0 : Nat) (u1 : Int) (u2 : Int) (u3 : Int) (k121 : Int → Int → HF → RO) : Nat → Int → Int → HF → RO
  | 0, _, _, _ => none
  | n + 1, v5, v6, h =>
    zrd h (u0 + 12) v5 fun x7 =>
    if x7 = (-1) then (
      zwr h (u0 + 12) v5 v6 fun h =>
      zlet (wr (v6 + 1)) fun x8 =>
      zbd (fX12_value F u0 u1 u2 v5 u3 h) fun r9 h =>
      LX12_powers_84 F u0 u1 u2 u3 k121 n r9 x8 h
    ) else (
      k121 v5 v6 h
    )
set_option maxHeartbeats 4000000 in
set_option maxRecDepth 100000 in
theorem wX12_powers_84 {p : Program} {l : Launch} {e : Env} {s : State} {m : MethodId} {args : Array Value} {below : List Frame} {meth : Method} {c : Code} {Q : State → Prop} {g : zG} {B : Nat} {o : Int × HF} (F : Nat) (cx : Cx p s m args meth c cX12_powers 7 RX12 (some .int) g B) (u0 : Nat) (ru0 : kt u0 = 15) (u1 : Int) (ru1 : rng u1) (u2 : Int) (ru2 : rng u2) (u3 : Int) (ru3 : rng u3) (k121 : Int → Int → HF → RO) (hk121 : ∀ (x5 : Int) (x6 : Int) (h : HF) (H : Heap) (locs : List Loc) (ls : Array Slot), rng x5 → rng x6 → Hp g B s h H locs → lv_has ls 7 [(0, .ref (B + u0)), (5, .int (ii x5)), (6, .int (ii x6))] → k121 x5 x6 h = some o → W p l e (rmn 3) s m args below meth c H locs 0 0 Q (F0 m 121 ls [])) : ∀ (n : Nat) (v5 : Int) (v6 : Int) (h : HF) (H : Heap) (locs : List Loc) (ls : Array Slot), rng v5 → rng v6 → Hp g B s h H locs → lv_has ls 7 [(0, .ref (B + u0)), (1, .int (ii u1)), (2, .int (ii u2)), (3, .int (ii u3)), (5, .int (ii v5)), (6, .int (ii v6))] → LX12_powers_84 F u0 u1 u2 u3 k121 n v5 v6 h = some o → W p l e (rmn 3) s m args below meth c H locs 0 0 Q (F0 m 84 ls []) := by
  intro n
  induction n with
  | zero =>
    intro v5 v6 h H locs ls rv5 rv6 hp hl hf
    cases hf
  | succ n ih =>
    intro v5 v6 h H locs ls rv5 rv6 hp hl hf
    rw [LX12_powers_84] at hf
    refine lv_aload_n cx.1 cx.2.1 dX12_powers_84 rfl (lv_at hl 0 rfl) ?_
    refine z_gets cx hp (T := TX12) 12 18 (u0 + 12) rfl zin_12 (by decide) (by decide) ru0 rfl fl_X12_43 dX12_powers_85 ?_
    refine lv_iload cx.1 cx.2.1 dX12_powers_88 (lv_at hl 4 rfl) ?_
    refine z_iald cx hp (zs_12_18 u0 (kt_lt ru0 (by decide)) ru0) rv5 dX12_powers_90 hf (fun x7 rx7 hf => ?_)
    refine z_iconst cx dX12_powers_91 ?_
    refine z_icmp_ne cx rx7 (by decide) (tgt := 121) dX12_powers_92 (by decide) hf (fun _ hf => ?_) (fun _ hf => ?_)
    · refine lv_aload_n cx.1 cx.2.1 dX12_powers_95 rfl (lv_at hl 0 rfl) ?_
      refine z_gets cx hp (T := TX12) 12 18 (u0 + 12) rfl zin_12 (by decide) (by decide) ru0 rfl fl_X12_43 dX12_powers_96 ?_
      refine lv_iload cx.1 cx.2.1 dX12_powers_99 (lv_at hl 4 rfl) ?_
      refine lv_iload cx.1 cx.2.1 dX12_powers_101 (lv_at hl 5 rfl) ?_
      refine z_iast cx hp (zs_12_18 u0 (kt_lt ru0 (by decide)) ru0) rv5 rv6 dX12_powers_103 hf (fun h H locs hp hf => ?_)
      refine z_iinc cx (fun x8 => [(6, .int (ii x8)), (0, .ref (B + u0)), (1, .int (ii u1)), (2, .int (ii u2)), (3, .int (ii u3)), (5, .int (ii v5))]) dX12_powers_104 hl (k := 5) rfl (by decide) (fun _ => rfl) hf (fun x8 rx8 hf ls hl => ?_)
      refine lv_aload_n cx.1 cx.2.1 dX12_powers_107 rfl (lv_at hl 1 rfl) ?_
      refine lv_iload_n cx.1 cx.2.1 dX12_powers_108 rfl (lv_at hl 2 rfl) ?_
      refine lv_iload_n cx.1 cx.2.1 dX12_powers_109 rfl (lv_at hl 3 rfl) ?_
      refine lv_iload cx.1 cx.2.1 dX12_powers_110 (lv_at hl 5 rfl) ?_
      refine lv_iload_n cx.1 cx.2.1 dX12_powers_112 rfl (lv_at hl 4 rfl) ?_
      refine z_ci cx hp (fun o' hx => zrunV (n := 3) (As := [.int (ii u1), .int (ii u2), .int (ii v5), .int (ii u3)]) (rest := []) cx hp (mX12_value F l g B h u0 u1 u2 v5 u3 ru0 ru1 ru2 rv5 ru3 o' hx) 12 ru0 (by decide) rfl vw_X12_value ml_X12_178 (by decide) rfl hl.1 rfl (Nat.le_of_ble_eq_true rfl) dX12_powers_113) hf (fun r9 h H locs rr9 hp hf => ?_)
      refine lv_istore (lv' := [(5, .int (ii r9)), (6, .int (ii x8)), (0, .ref (B + u0)), (1, .int (ii u1)), (2, .int (ii u2)), (3, .int (ii u3))]) cx.1 cx.2.1 dX12_powers_116 hl (by decide) rfl (fun ls hl => ?_)
      refine lv_goto (tgt := 84) cx.1 cx.2.1 dX12_powers_118 (by decide) ?_
      exact ih r9 x8 h _ _ ls rr9 rx8 hp (lv_sub hl [2, 3, 4, 5, 0, 1] rfl) hf
    · exact hk121 v5 v6 h _ _ ls rv5 rv6 hp (lv_sub hl [0, 4, 5] rfl) hf
def LX12_powers_57 (F : Nat) (u0 : Nat) (u1 : Int) (u2 : Int) (u3 : Int) (k78 : HF → RO) : Nat → Int → HF → RO
  | 0, _, _ => none
  | n + 1, v5, h =>
    if v5 < 7 then (
      zwr h (u0 + 12) v5 (-1) fun h =>
      zlet (wr (v5 + 1)) fun x10 =>
      LX12_powers_57 F u0 u1 u2 u3 k78 n x10 h
    ) else (
      k78  h
    )
set_option maxHeartbeats 4000000 in
set_option maxRecDepth 100000 in
theorem wX12_powers_57 {p : Program} {l : Launch} {e : Env} {s : State} {m : MethodId} {args : Array Value} {below : List Frame} {meth : Method} {c : Code} {Q : State → Prop} {g : zG} {B : Nat} {o : Int × HF} (F : Nat) (cx : Cx p s m args meth c cX12_powers 7 RX12 (some .int) g B) (u0 : Nat) (ru0 : kt u0 = 15) (u1 : Int) (ru1 : rng u1) (u2 : Int) (ru2 : rng u2) (u3 : Int) (ru3 : rng u3) (k78 : HF → RO) (hk78 : ∀  (h : HF) (H : Heap) (locs : List Loc) (ls : Array Slot), Hp g B s h H locs → lv_has ls 7 [(0, .ref (B + u0)), (1, .int (ii u1)), (2, .int (ii u2)), (3, .int (ii u3))] → k78  h = some o → W p l e (rmn 3) s m args below meth c H locs 0 0 Q (F0 m 78 ls [])) : ∀ (n : Nat) (v5 : Int) (h : HF) (H : Heap) (locs : List Loc) (ls : Array Slot), rng v5 → Hp g B s h H locs → lv_has ls 7 [(0, .ref (B + u0)), (1, .int (ii u1)), (2, .int (ii u2)), (3, .int (ii u3)), (5, .int (ii v5))] → LX12_powers_57 F u0 u1 u2 u3 k78 n v5 h = some o → W p l e (rmn 3) s m args below meth c H locs 0 0 Q (F0 m 57 ls []) := by
  intro n
  induction n with
  | zero =>
    intro v5 h H locs ls rv5 hp hl hf
    cases hf
  | succ n ih =>
    intro v5 h H locs ls rv5 hp hl hf
    rw [LX12_powers_57] at hf
    refine lv_iload cx.1 cx.2.1 dX12_powers_57 (lv_at hl 4 rfl) ?_
    refine z_bipush cx (by decide) dX12_powers_59 ?_
    refine z_icmp_ge cx rv5 (by decide) (tgt := 78) dX12_powers_61 (by decide) hf (fun _ hf => ?_) (fun _ hf => ?_)
    · refine lv_aload_n cx.1 cx.2.1 dX12_powers_64 rfl (lv_at hl 0 rfl) ?_
      refine z_gets cx hp (T := TX12) 12 18 (u0 + 12) rfl zin_12 (by decide) (by decide) ru0 rfl fl_X12_43 dX12_powers_65 ?_
      refine lv_iload cx.1 cx.2.1 dX12_powers_68 (lv_at hl 4 rfl) ?_
      refine z_iconst cx dX12_powers_70 ?_
      refine z_iast cx hp (zs_12_18 u0 (kt_lt ru0 (by decide)) ru0) rv5 (by decide) dX12_powers_71 hf (fun h H locs hp hf => ?_)
      refine z_iinc cx (fun x10 => [(5, .int (ii x10)), (0, .ref (B + u0)), (1, .int (ii u1)), (2, .int (ii u2)), (3, .int (ii u3))]) dX12_powers_72 hl (k := 4) rfl (by decide) (fun _ => rfl) hf (fun x10 rx10 hf ls hl => ?_)
      refine lv_goto (tgt := 57) cx.1 cx.2.1 dX12_powers_75 (by decide) ?_
      exact ih x10 h _ _ ls rx10 hp (lv_sub hl [1, 2, 3, 4, 0] rfl) hf
    · exact hk78  h _ _ ls  hp (lv_sub hl [0, 1, 2, 3] rfl) hf
def fX12_powers (F : Nat) (a0 : Nat) (a1 : Int) (a2 : Int) (a3 : Int) (h : HF) : RO :=
  zpf h a0 0 0 fun h =>
  zbd (fX12_refuse F a0 a1 h) fun r1 h =>
  if r1 = 0 then (
    zbd (fX12_isOp F a0 a1 a2 h) fun r2 h =>
    zjn (fun  (h : HF) => (
      some ((-3), h)
    )) fun j38 =>
    if r2 = 0 then (
      j38  h
    ) else (
      zbd (fX12_isElement F a0 a1 a3 h) fun r3 h =>
      if r3 = 0 then (
        j38  h
      ) else (
        zbd (fX12_arity F a0 a1 a2 h) fun r4 h =>
        if r4 = 2 then (
          zjn (fun  (h : HF) => (
            zjn (fun (x121_5 : Int) (x121_6 : Int) (h : HF) => (
              zrd h (a0 + 12) x121_5 fun x5 =>
              zrd h (a0 + 12) x121_5 fun x6 =>
              some (wr ((wr ((wr (10 * x5)) + x121_6)) - x6), h)
            )) fun j121 =>
            LX12_powers_84 F a0 a1 a2 a3 j121 F a3 0 h
          )) fun j78 =>
          LX12_powers_57 F a0 a1 a2 a3 j78 F 0 h
        ) else (
          some ((-12), h)
        )
      )
    )
  ) else (
    some (r1, h)
  )
set_option maxHeartbeats 4000000 in
set_option maxRecDepth 100000 in
theorem mX12_powers (F : Nat) (l : Launch) (g : zG) (B : Nat) (h : HF) (a0 : Nat) (a1 : Int) (a2 : Int) (a3 : Int) (ra0 : kt a0 = 15) (ra1 : rng a1) (ra2 : rng a2) (ra3 : rng a3) : CTi l g B yX12_powers cX12_powers 7 (some .int) 3 [.ref (B + a0), .int (ii a1), .int (ii a2), .int (ii a3)] h (fX12_powers F a0 a1 a2 a3 h) := by
  refine z_enterI (by decide) rfl (Nat.le_of_ble_eq_true rfl) ?_
  intro p e s m args below meth c ls o Q cx hp hl hf hQ
  have hl : lv_has ls 7 [(0, .ref (B + a0)), (1, .int (ii a1)), (2, .int (ii a2)), (3, .int (ii a3))] := hl
  unfold fX12_powers at hf
  refine lv_aload_n cx.1 cx.2.1 dX12_powers_0 rfl (lv_at hl 0 rfl) ?_
  refine z_iconst cx dX12_powers_1 ?_
  refine z_puti cx hp (T := TX12) tyX12 tyX12_ok nmX12 12 0 (by decide) rfl zin_12 (by decide) (by decide) ra0 rfl rfl rfl fl_X12_115 dX12_powers_2 hf (fun h H locs hp hf => ?_)
  refine lv_aload_n cx.1 cx.2.1 dX12_powers_5 rfl (lv_at hl 0 rfl) ?_
  refine lv_iload_n cx.1 cx.2.1 dX12_powers_6 rfl (lv_at hl 1 rfl) ?_
  refine z_ci cx hp (fun o' hx => zrunV (n := 3) (As := [.int (ii a1)]) (rest := []) cx hp (mX12_refuse F l g B h a0 a1 ra0 ra1 o' hx) 12 ra0 (by decide) rfl vw_X12_refuse ml_X12_168 (by decide) rfl hl.1 rfl (Nat.le_of_ble_eq_true rfl) dX12_powers_7) hf (fun r1 h H locs rr1 hp hf => ?_)
  refine lv_istore (lv' := [(4, .int (ii r1)), (0, .ref (B + a0)), (1, .int (ii a1)), (2, .int (ii a2)), (3, .int (ii a3))]) cx.1 cx.2.1 dX12_powers_10 hl (by decide) rfl (fun ls hl => ?_)
  refine lv_iload cx.1 cx.2.1 dX12_powers_12 (lv_at hl 0 rfl) ?_
  refine z_if_eq cx rr1 (tgt := 20) dX12_powers_14 (by decide) hf (fun _ hf => ?_) (fun _ hf => ?_)
  · refine lv_aload_n cx.1 cx.2.1 dX12_powers_20 rfl (lv_at hl 1 rfl) ?_
    refine lv_iload_n cx.1 cx.2.1 dX12_powers_21 rfl (lv_at hl 2 rfl) ?_
    refine lv_iload_n cx.1 cx.2.1 dX12_powers_22 rfl (lv_at hl 3 rfl) ?_
    refine z_ci cx hp (fun o' hx => zrunV (n := 3) (As := [.int (ii a1), .int (ii a2)]) (rest := []) cx hp (mX12_isOp F l g B h a0 a1 a2 ra0 ra1 ra2 o' hx) 12 ra0 (by decide) rfl vw_X12_isOp ml_X12_171 (by decide) rfl hl.1 rfl (Nat.le_of_ble_eq_true rfl) dX12_powers_23) hf (fun r2 h H locs rr2 hp hf => ?_)
    refine z_jn hf (fun j => ∀  (h : HF) (H : Heap) (locs : List Loc) (ls : Array Slot), Hp g B s h H locs → lv_has ls 7 [] → j  h = some o → W p l e (rmn 3) s m args below meth c H locs 0 0 Q (F0 m 38 ls [])) ?_ (fun j38 hj38 hf => ?_)
    · intro  h H locs ls  hp hl hf
      refine z_bipush cx (by decide) dX12_powers_38 ?_
      rw [hQ]; exact z_iret cx hp (by decide) dX12_powers_40 hf
    refine z_if_eq cx rr2 (tgt := 38) dX12_powers_26 (by decide) hf (fun _ hf => ?_) (fun _ hf => ?_)
    · exact hj38  h _ _ ls  hp (lv_sub hl [] rfl) hf
    · refine lv_aload_n cx.1 cx.2.1 dX12_powers_29 rfl (lv_at hl 1 rfl) ?_
      refine lv_iload_n cx.1 cx.2.1 dX12_powers_30 rfl (lv_at hl 2 rfl) ?_
      refine lv_iload_n cx.1 cx.2.1 dX12_powers_31 rfl (lv_at hl 4 rfl) ?_
      refine z_ci cx hp (fun o' hx => zrunV (n := 3) (As := [.int (ii a1), .int (ii a3)]) (rest := []) cx hp (mX12_isElement F l g B h a0 a1 a3 ra0 ra1 ra3 o' hx) 12 ra0 (by decide) rfl vw_X12_isElement ml_X12_164 (by decide) rfl hl.1 rfl (Nat.le_of_ble_eq_true rfl) dX12_powers_32) hf (fun r3 h H locs rr3 hp hf => ?_)
      refine z_if_ne cx rr3 (tgt := 41) dX12_powers_35 (by decide) hf (fun _ hf => ?_) (fun _ hf => ?_)
      · exact hj38  h _ _ ls  hp (lv_sub hl [] rfl) hf
      · refine lv_aload_n cx.1 cx.2.1 dX12_powers_41 rfl (lv_at hl 1 rfl) ?_
        refine lv_iload_n cx.1 cx.2.1 dX12_powers_42 rfl (lv_at hl 2 rfl) ?_
        refine lv_iload_n cx.1 cx.2.1 dX12_powers_43 rfl (lv_at hl 3 rfl) ?_
        refine z_ci cx hp (fun o' hx => zrunV (n := 3) (As := [.int (ii a1), .int (ii a2)]) (rest := []) cx hp (mX12_arity F l g B h a0 a1 a2 ra0 ra1 ra2 o' hx) 12 ra0 (by decide) rfl vw_X12_arity ml_X12_129 (by decide) rfl hl.1 rfl (Nat.le_of_ble_eq_true rfl) dX12_powers_44) hf (fun r4 h H locs rr4 hp hf => ?_)
        refine z_iconst cx dX12_powers_47 ?_
        refine z_icmp_eq cx rr4 (by decide) (tgt := 54) dX12_powers_48 (by decide) hf (fun _ hf => ?_) (fun _ hf => ?_)
        · refine z_iconst cx dX12_powers_54 ?_
          refine lv_istore (lv' := [(5, .int (ii 0)), (4, .int (ii r1)), (0, .ref (B + a0)), (1, .int (ii a1)), (2, .int (ii a2)), (3, .int (ii a3))]) cx.1 cx.2.1 dX12_powers_55 hl (by decide) rfl (fun ls hl => ?_)
          refine z_jn hf (fun j => ∀  (h : HF) (H : Heap) (locs : List Loc) (ls : Array Slot), Hp g B s h H locs → lv_has ls 7 [(0, .ref (B + a0)), (1, .int (ii a1)), (2, .int (ii a2)), (3, .int (ii a3))] → j  h = some o → W p l e (rmn 3) s m args below meth c H locs 0 0 Q (F0 m 78 ls [])) ?_ (fun j78 hj78 hf => ?_)
          · intro  h H locs ls  hp hl hf
            refine lv_iload_n cx.1 cx.2.1 dX12_powers_78 rfl (lv_at hl 3 rfl) ?_
            refine lv_istore (lv' := [(5, .int (ii a3)), (0, .ref (B + a0)), (1, .int (ii a1)), (2, .int (ii a2)), (3, .int (ii a3))]) cx.1 cx.2.1 dX12_powers_79 hl (by decide) rfl (fun ls hl => ?_)
            refine z_iconst cx dX12_powers_81 ?_
            refine lv_istore (lv' := [(6, .int (ii 0)), (5, .int (ii a3)), (0, .ref (B + a0)), (1, .int (ii a1)), (2, .int (ii a2)), (3, .int (ii a3))]) cx.1 cx.2.1 dX12_powers_82 hl (by decide) rfl (fun ls hl => ?_)
            refine z_jn hf (fun j => ∀ (x121_5 : Int) (x121_6 : Int) (h : HF) (H : Heap) (locs : List Loc) (ls : Array Slot), rng x121_5 → rng x121_6 → Hp g B s h H locs → lv_has ls 7 [(0, .ref (B + a0)), (5, .int (ii x121_5)), (6, .int (ii x121_6))] → j x121_5 x121_6 h = some o → W p l e (rmn 3) s m args below meth c H locs 0 0 Q (F0 m 121 ls [])) ?_ (fun j121 hj121 hf => ?_)
            · intro x121_5 x121_6 h H locs ls rx121_5 rx121_6 hp hl hf
              refine z_bipush cx (by decide) dX12_powers_121 ?_
              refine lv_aload_n cx.1 cx.2.1 dX12_powers_123 rfl (lv_at hl 0 rfl) ?_
              refine z_gets cx hp (T := TX12) 12 18 (a0 + 12) rfl zin_12 (by decide) (by decide) ra0 rfl fl_X12_43 dX12_powers_124 ?_
              refine lv_iload cx.1 cx.2.1 dX12_powers_127 (lv_at hl 1 rfl) ?_
              refine z_iald cx hp (zs_12_18 a0 (kt_lt ra0 (by decide)) ra0) rx121_5 dX12_powers_129 hf (fun x5 rx5 hf => ?_)
              refine z_imul cx dX12_powers_130 ?_
              refine lv_iload cx.1 cx.2.1 dX12_powers_131 (lv_at hl 2 rfl) ?_
              refine z_iadd cx dX12_powers_133 ?_
              refine lv_aload_n cx.1 cx.2.1 dX12_powers_134 rfl (lv_at hl 0 rfl) ?_
              refine z_gets cx hp (T := TX12) 12 18 (a0 + 12) rfl zin_12 (by decide) (by decide) ra0 rfl fl_X12_43 dX12_powers_135 ?_
              refine lv_iload cx.1 cx.2.1 dX12_powers_138 (lv_at hl 1 rfl) ?_
              refine z_iald cx hp (zs_12_18 a0 (kt_lt ra0 (by decide)) ra0) rx121_5 dX12_powers_140 hf (fun x6 rx6 hf => ?_)
              refine z_isub cx dX12_powers_141 ?_
              rw [hQ]; exact z_iret cx hp (rng_wr _) dX12_powers_142 hf
            exact wX12_powers_84 F cx a0 ra0 a1 ra1 a2 ra2 a3 ra3 j121 hj121 F a3 0 h _ _ ls ra3 (by decide) hp (lv_sub hl [2, 3, 4, 5, 1, 0] rfl) hf
          exact wX12_powers_57 F cx a0 ra0 a1 ra1 a2 ra2 a3 ra3 j78 hj78 F 0 h _ _ ls (by decide) hp (lv_sub hl [2, 3, 4, 5, 0] rfl) hf
        · refine z_bipush cx (by decide) dX12_powers_51 ?_
          rw [hQ]; exact z_iret cx hp (by decide) dX12_powers_53 hf
  · refine lv_iload cx.1 cx.2.1 dX12_powers_17 (lv_at hl 0 rfl) ?_
    rw [hQ]; exact z_iret cx hp rr1 dX12_powers_19 hf
theorem dX12_centre_0 : decode cX12_centre 0 = .ok (.aload_n 0, 1) := by decide +kernel
theorem dX12_centre_1 : decode cX12_centre 1 = .ok (.iconst 0, 1) := by decide +kernel
theorem dX12_centre_2 : decode cX12_centre 2 = .ok (.putfield 115, 3) := by decide +kernel
theorem dX12_centre_5 : decode cX12_centre 5 = .ok (.aload_n 0, 1) := by decide +kernel
theorem dX12_centre_6 : decode cX12_centre 6 = .ok (.iload_n 1, 1) := by decide +kernel
theorem dX12_centre_7 : decode cX12_centre 7 = .ok (.iload_n 2, 1) := by decide +kernel
theorem dX12_centre_8 : decode cX12_centre 8 = .ok (.invokevirtual 181, 3) := by decide +kernel
theorem dX12_centre_11 : decode cX12_centre 11 = .ok (.istore_n 3, 1) := by decide +kernel
theorem dX12_centre_12 : decode cX12_centre 12 = .ok (.iload_n 3, 1) := by decide +kernel
theorem dX12_centre_13 : decode cX12_centre 13 = .ok (.ifCond .eq 5, 3) := by decide +kernel
theorem dX12_centre_16 : decode cX12_centre 16 = .ok (.iload_n 3, 1) := by decide +kernel
theorem dX12_centre_17 : decode cX12_centre 17 = .ok (.ireturn, 1) := by decide +kernel
theorem dX12_centre_18 : decode cX12_centre 18 = .ok (.iconst 0, 1) := by decide +kernel
theorem dX12_centre_19 : decode cX12_centre 19 = .ok (.istore 4, 2) := by decide +kernel
theorem dX12_centre_21 : decode cX12_centre 21 = .ok (.iconst 0, 1) := by decide +kernel
theorem dX12_centre_22 : decode cX12_centre 22 = .ok (.istore 5, 2) := by decide +kernel
theorem dX12_centre_24 : decode cX12_centre 24 = .ok (.iload 5, 2) := by decide +kernel
theorem dX12_centre_26 : decode cX12_centre 26 = .ok (.aload_n 0, 1) := by decide +kernel
theorem dX12_centre_27 : decode cX12_centre 27 = .ok (.getfield 16, 3) := by decide +kernel
theorem dX12_centre_30 : decode cX12_centre 30 = .ok (.iload_n 1, 1) := by decide +kernel
theorem dX12_centre_31 : decode cX12_centre 31 = .ok (.iaload, 1) := by decide +kernel
theorem dX12_centre_32 : decode cX12_centre 32 = .ok (.if_icmp .ge 85, 3) := by decide +kernel
theorem dX12_centre_35 : decode cX12_centre 35 = .ok (.iconst 1, 1) := by decide +kernel
theorem dX12_centre_36 : decode cX12_centre 36 = .ok (.istore 6, 2) := by decide +kernel
theorem dX12_centre_38 : decode cX12_centre 38 = .ok (.iconst 0, 1) := by decide +kernel
theorem dX12_centre_39 : decode cX12_centre 39 = .ok (.istore 7, 2) := by decide +kernel
theorem dX12_centre_41 : decode cX12_centre 41 = .ok (.iload 7, 2) := by decide +kernel
theorem dX12_centre_43 : decode cX12_centre 43 = .ok (.aload_n 0, 1) := by decide +kernel
theorem dX12_centre_44 : decode cX12_centre 44 = .ok (.getfield 16, 3) := by decide +kernel
theorem dX12_centre_47 : decode cX12_centre 47 = .ok (.iload_n 1, 1) := by decide +kernel
theorem dX12_centre_48 : decode cX12_centre 48 = .ok (.iaload, 1) := by decide +kernel
theorem dX12_centre_49 : decode cX12_centre 49 = .ok (.if_icmp .ge 44, 3) := by decide +kernel
theorem dX12_centre_52 : decode cX12_centre 52 = .ok (.iload 6, 2) := by decide +kernel
theorem dX12_centre_54 : decode cX12_centre 54 = .ok (.ifCond .eq 30, 3) := by decide +kernel
theorem dX12_centre_57 : decode cX12_centre 57 = .ok (.aload_n 0, 1) := by decide +kernel
theorem dX12_centre_58 : decode cX12_centre 58 = .ok (.iload_n 1, 1) := by decide +kernel
theorem dX12_centre_59 : decode cX12_centre 59 = .ok (.iload_n 2, 1) := by decide +kernel
theorem dX12_centre_60 : decode cX12_centre 60 = .ok (.iload 5, 2) := by decide +kernel
theorem dX12_centre_62 : decode cX12_centre 62 = .ok (.iload 7, 2) := by decide +kernel
theorem dX12_centre_64 : decode cX12_centre 64 = .ok (.invokevirtual 178, 3) := by decide +kernel
theorem dX12_centre_67 : decode cX12_centre 67 = .ok (.aload_n 0, 1) := by decide +kernel
theorem dX12_centre_68 : decode cX12_centre 68 = .ok (.iload_n 1, 1) := by decide +kernel
theorem dX12_centre_69 : decode cX12_centre 69 = .ok (.iload_n 2, 1) := by decide +kernel
theorem dX12_centre_70 : decode cX12_centre 70 = .ok (.iload 7, 2) := by decide +kernel
theorem dX12_centre_72 : decode cX12_centre 72 = .ok (.iload 5, 2) := by decide +kernel
theorem dX12_centre_74 : decode cX12_centre 74 = .ok (.invokevirtual 178, 3) := by decide +kernel
theorem dX12_centre_77 : decode cX12_centre 77 = .ok (.if_icmp .ne 7, 3) := by decide +kernel
theorem dX12_centre_80 : decode cX12_centre 80 = .ok (.iconst 1, 1) := by decide +kernel
theorem dX12_centre_81 : decode cX12_centre 81 = .ok (.goto 4, 3) := by decide +kernel
theorem dX12_centre_84 : decode cX12_centre 84 = .ok (.iconst 0, 1) := by decide +kernel
theorem dX12_centre_85 : decode cX12_centre 85 = .ok (.istore 6, 2) := by decide +kernel
theorem dX12_centre_87 : decode cX12_centre 87 = .ok (.iinc 7 1, 3) := by decide +kernel
theorem dX12_centre_90 : decode cX12_centre 90 = .ok (.goto (-49), 3) := by decide +kernel
theorem dX12_centre_93 : decode cX12_centre 93 = .ok (.iload 4, 2) := by decide +kernel
theorem dX12_centre_95 : decode cX12_centre 95 = .ok (.iload 6, 2) := by decide +kernel
theorem dX12_centre_97 : decode cX12_centre 97 = .ok (.ifCond .eq 10, 3) := by decide +kernel
theorem dX12_centre_100 : decode cX12_centre 100 = .ok (.iconst 1, 1) := by decide +kernel
theorem dX12_centre_101 : decode cX12_centre 101 = .ok (.iload 5, 2) := by decide +kernel
theorem dX12_centre_103 : decode cX12_centre 103 = .ok (.ishl, 1) := by decide +kernel
theorem dX12_centre_104 : decode cX12_centre 104 = .ok (.goto 4, 3) := by decide +kernel
theorem dX12_centre_107 : decode cX12_centre 107 = .ok (.iconst 0, 1) := by decide +kernel
theorem dX12_centre_108 : decode cX12_centre 108 = .ok (.ior, 1) := by decide +kernel
theorem dX12_centre_109 : decode cX12_centre 109 = .ok (.istore 4, 2) := by decide +kernel
theorem dX12_centre_111 : decode cX12_centre 111 = .ok (.iinc 5 1, 3) := by decide +kernel
theorem dX12_centre_114 : decode cX12_centre 114 = .ok (.goto (-90), 3) := by decide +kernel
theorem dX12_centre_117 : decode cX12_centre 117 = .ok (.iload 4, 2) := by decide +kernel
theorem dX12_centre_119 : decode cX12_centre 119 = .ok (.ireturn, 1) := by decide +kernel
def LX12_centre_41 (F : Nat) (u0 : Nat) (u1 : Int) (u2 : Int) (u4 : Int) (u5 : Int) (k93 : Int → Int → Int → HF → RO) : Nat → Int → Int → HF → RO
  | 0, _, _, _ => none
  | n + 1, v6, v7, h =>
    zrd h (u0 + 3) u1 fun x5 =>
    if v7 < x5 then (
      zjn (fun (x85_7 : Int) (y85_0 : Int) (h : HF) => (
        zlet (wr (x85_7 + 1)) fun x6 =>
        LX12_centre_41 F u0 u1 u2 u4 u5 k93 n y85_0 x6 h
      )) fun j85 =>
      zjn (fun (x84_7 : Int) (h : HF) => (
        j85 x84_7 0 h
      )) fun j84 =>
      if v6 = 0 then (
        j84 v7 h
      ) else (
        zbd (fX12_value F u0 u1 u2 u5 v7 h) fun r7 h =>
        zbd (fX12_value F u0 u1 u2 v7 u5 h) fun r8 h =>
        if r7 = r8 then (
          j85 v7 1 h
        ) else (
          j84 v7 h
        )
      )
    ) else (
      k93 u4 u5 v6 h
    )
set_option maxHeartbeats 4000000 in
set_option maxRecDepth 100000 in
theorem wX12_centre_41 {p : Program} {l : Launch} {e : Env} {s : State} {m : MethodId} {args : Array Value} {below : List Frame} {meth : Method} {c : Code} {Q : State → Prop} {g : zG} {B : Nat} {o : Int × HF} (F : Nat) (cx : Cx p s m args meth c cX12_centre 8 RX12 (some .int) g B) (u0 : Nat) (ru0 : kt u0 = 15) (u1 : Int) (ru1 : rng u1) (u2 : Int) (ru2 : rng u2) (u4 : Int) (ru4 : rng u4) (u5 : Int) (ru5 : rng u5) (k93 : Int → Int → Int → HF → RO) (hk93 : ∀ (x4 : Int) (x5 : Int) (x6 : Int) (h : HF) (H : Heap) (locs : List Loc) (ls : Array Slot), rng x4 → rng x5 → rng x6 → Hp g B s h H locs → lv_has ls 8 [(0, .ref (B + u0)), (1, .int (ii u1)), (2, .int (ii u2)), (4, .int (ii x4)), (5, .int (ii x5)), (6, .int (ii x6))] → k93 x4 x5 x6 h = some o → W p l e (rmn 3) s m args below meth c H locs 0 0 Q (F0 m 93 ls [])) : ∀ (n : Nat) (v6 : Int) (v7 : Int) (h : HF) (H : Heap) (locs : List Loc) (ls : Array Slot), rng v6 → rng v7 → Hp g B s h H locs → lv_has ls 8 [(0, .ref (B + u0)), (1, .int (ii u1)), (2, .int (ii u2)), (4, .int (ii u4)), (5, .int (ii u5)), (6, .int (ii v6)), (7, .int (ii v7))] → LX12_centre_41 F u0 u1 u2 u4 u5 k93 n v6 v7 h = some o → W p l e (rmn 3) s m args below meth c H locs 0 0 Q (F0 m 41 ls []) := by
  intro n
  induction n with
  | zero =>
    intro v6 v7 h H locs ls rv6 rv7 hp hl hf
    cases hf
  | succ n ih =>
    intro v6 v7 h H locs ls rv6 rv7 hp hl hf
    rw [LX12_centre_41] at hf
    refine lv_iload cx.1 cx.2.1 dX12_centre_41 (lv_at hl 6 rfl) ?_
    refine lv_aload_n cx.1 cx.2.1 dX12_centre_43 rfl (lv_at hl 0 rfl) ?_
    refine z_gets cx hp (T := TX12) 12 6 (u0 + 3) rfl zin_12 (by decide) (by decide) ru0 rfl fl_X12_16 dX12_centre_44 ?_
    refine lv_iload_n cx.1 cx.2.1 dX12_centre_47 rfl (lv_at hl 1 rfl) ?_
    refine z_iald cx hp (zs_12_6 u0 (kt_lt ru0 (by decide)) ru0) ru1 dX12_centre_48 hf (fun x5 rx5 hf => ?_)
    refine z_icmp_ge cx rv7 rx5 (tgt := 93) dX12_centre_49 (by decide) hf (fun _ hf => ?_) (fun _ hf => ?_)
    · refine lv_iload cx.1 cx.2.1 dX12_centre_52 (lv_at hl 5 rfl) ?_
      refine z_jn hf (fun j => ∀ (x85_7 : Int) (y85_0 : Int) (h : HF) (H : Heap) (locs : List Loc) (ls : Array Slot), rng x85_7 → rng y85_0 → Hp g B s h H locs → lv_has ls 8 [(0, .ref (B + u0)), (1, .int (ii u1)), (2, .int (ii u2)), (4, .int (ii u4)), (5, .int (ii u5)), (7, .int (ii x85_7))] → j x85_7 y85_0 h = some o → W p l e (rmn 3) s m args below meth c H locs 0 0 Q (F0 m 85 ls [.int (ii y85_0)])) ?_ (fun j85 hj85 hf => ?_)
      · intro x85_7 y85_0 h H locs ls rx85_7 ry85_0 hp hl hf
        refine lv_istore (lv' := [(6, .int (ii y85_0)), (0, .ref (B + u0)), (1, .int (ii u1)), (2, .int (ii u2)), (4, .int (ii u4)), (5, .int (ii u5)), (7, .int (ii x85_7))]) cx.1 cx.2.1 dX12_centre_85 hl (by decide) rfl (fun ls hl => ?_)
        refine z_iinc cx (fun x6 => [(7, .int (ii x6)), (6, .int (ii y85_0)), (0, .ref (B + u0)), (1, .int (ii u1)), (2, .int (ii u2)), (4, .int (ii u4)), (5, .int (ii u5))]) dX12_centre_87 hl (k := 6) rfl (by decide) (fun _ => rfl) hf (fun x6 rx6 hf ls hl => ?_)
        refine lv_goto (tgt := 41) cx.1 cx.2.1 dX12_centre_90 (by decide) ?_
        exact ih y85_0 x6 h _ _ ls ry85_0 rx6 hp (lv_sub hl [2, 3, 4, 5, 6, 1, 0] rfl) hf
      refine z_jn hf (fun j => ∀ (x84_7 : Int) (h : HF) (H : Heap) (locs : List Loc) (ls : Array Slot), rng x84_7 → Hp g B s h H locs → lv_has ls 8 [(0, .ref (B + u0)), (1, .int (ii u1)), (2, .int (ii u2)), (4, .int (ii u4)), (5, .int (ii u5)), (7, .int (ii x84_7))] → j x84_7 h = some o → W p l e (rmn 3) s m args below meth c H locs 0 0 Q (F0 m 84 ls [])) ?_ (fun j84 hj84 hf => ?_)
      · intro x84_7 h H locs ls rx84_7 hp hl hf
        refine z_iconst cx dX12_centre_84 ?_
        exact hj85 x84_7 0 h _ _ ls rx84_7 (by decide) hp (lv_sub hl [0, 1, 2, 3, 4, 5] rfl) hf
      refine z_if_eq cx rv6 (tgt := 84) dX12_centre_54 (by decide) hf (fun _ hf => ?_) (fun _ hf => ?_)
      · exact hj84 v7 h _ _ ls rv7 hp (lv_sub hl [0, 1, 2, 3, 4, 6] rfl) hf
      · refine lv_aload_n cx.1 cx.2.1 dX12_centre_57 rfl (lv_at hl 0 rfl) ?_
        refine lv_iload_n cx.1 cx.2.1 dX12_centre_58 rfl (lv_at hl 1 rfl) ?_
        refine lv_iload_n cx.1 cx.2.1 dX12_centre_59 rfl (lv_at hl 2 rfl) ?_
        refine lv_iload cx.1 cx.2.1 dX12_centre_60 (lv_at hl 4 rfl) ?_
        refine lv_iload cx.1 cx.2.1 dX12_centre_62 (lv_at hl 6 rfl) ?_
        refine z_ci cx hp (fun o' hx => zrunV (n := 3) (As := [.int (ii u1), .int (ii u2), .int (ii u5), .int (ii v7)]) (rest := []) cx hp (mX12_value F l g B h u0 u1 u2 u5 v7 ru0 ru1 ru2 ru5 rv7 o' hx) 12 ru0 (by decide) rfl vw_X12_value ml_X12_178 (by decide) rfl hl.1 rfl (Nat.le_of_ble_eq_true rfl) dX12_centre_64) hf (fun r7 h H locs rr7 hp hf => ?_)
        refine lv_aload_n cx.1 cx.2.1 dX12_centre_67 rfl (lv_at hl 0 rfl) ?_
        refine lv_iload_n cx.1 cx.2.1 dX12_centre_68 rfl (lv_at hl 1 rfl) ?_
        refine lv_iload_n cx.1 cx.2.1 dX12_centre_69 rfl (lv_at hl 2 rfl) ?_
        refine lv_iload cx.1 cx.2.1 dX12_centre_70 (lv_at hl 6 rfl) ?_
        refine lv_iload cx.1 cx.2.1 dX12_centre_72 (lv_at hl 4 rfl) ?_
        refine z_ci cx hp (fun o' hx => zrunV (n := 3) (As := [.int (ii u1), .int (ii u2), .int (ii v7), .int (ii u5)]) (rest := [.int (ii r7)]) cx hp (mX12_value F l g B h u0 u1 u2 v7 u5 ru0 ru1 ru2 rv7 ru5 o' hx) 12 ru0 (by decide) rfl vw_X12_value ml_X12_178 (by decide) rfl hl.1 rfl (Nat.le_of_ble_eq_true rfl) dX12_centre_74) hf (fun r8 h H locs rr8 hp hf => ?_)
        refine z_icmp_ne cx rr7 rr8 (tgt := 84) dX12_centre_77 (by decide) hf (fun _ hf => ?_) (fun _ hf => ?_)
        · refine z_iconst cx dX12_centre_80 ?_
          refine lv_goto (tgt := 85) cx.1 cx.2.1 dX12_centre_81 (by decide) ?_
          exact hj85 v7 1 h _ _ ls rv7 (by decide) hp (lv_sub hl [0, 1, 2, 3, 4, 6] rfl) hf
        · exact hj84 v7 h _ _ ls rv7 hp (lv_sub hl [0, 1, 2, 3, 4, 6] rfl) hf
    · exact hk93 u4 u5 v6 h _ _ ls ru4 ru5 rv6 hp (lv_sub hl [0, 1, 2, 3, 4, 5] rfl) hf
def LX12_centre_24 (F : Nat) (u0 : Nat) (u1 : Int) (u2 : Int) (k117 : Int → HF → RO) : Nat → Int → Int → HF → RO
  | 0, _, _, _ => none
  | n + 1, v4, v5, h =>
    zrd h (u0 + 3) u1 fun x2 =>
    if v5 < x2 then (
      zjn (fun (x93_4 : Int) (x93_5 : Int) (x93_6 : Int) (h : HF) => (
        zjn (fun (x108_5 : Int) (y108_0 : Int) (y108_1 : Int) (h : HF) => (
          zlet (wor y108_1 y108_0) fun x3 =>
          zlet (wr (x108_5 + 1)) fun x4 =>
          LX12_centre_24 F u0 u1 u2 k117 n x3 x4 h
        )) fun j108 =>
        if x93_6 = 0 then (
          j108 x93_5 0 x93_4 h
        ) else (
          j108 x93_5 (wshl 1 x93_5) x93_4 h
        )
      )) fun j93 =>
      LX12_centre_41 F u0 u1 u2 v4 v5 j93 F 1 0 h
    ) else (
      k117 v4 h
    )
set_option maxHeartbeats 4000000 in
set_option maxRecDepth 100000 in
theorem wX12_centre_24 {p : Program} {l : Launch} {e : Env} {s : State} {m : MethodId} {args : Array Value} {below : List Frame} {meth : Method} {c : Code} {Q : State → Prop} {g : zG} {B : Nat} {o : Int × HF} (F : Nat) (cx : Cx p s m args meth c cX12_centre 8 RX12 (some .int) g B) (u0 : Nat) (ru0 : kt u0 = 15) (u1 : Int) (ru1 : rng u1) (u2 : Int) (ru2 : rng u2) (k117 : Int → HF → RO) (hk117 : ∀ (x4 : Int) (h : HF) (H : Heap) (locs : List Loc) (ls : Array Slot), rng x4 → Hp g B s h H locs → lv_has ls 8 [(4, .int (ii x4))] → k117 x4 h = some o → W p l e (rmn 3) s m args below meth c H locs 0 0 Q (F0 m 117 ls [])) : ∀ (n : Nat) (v4 : Int) (v5 : Int) (h : HF) (H : Heap) (locs : List Loc) (ls : Array Slot), rng v4 → rng v5 → Hp g B s h H locs → lv_has ls 8 [(0, .ref (B + u0)), (1, .int (ii u1)), (2, .int (ii u2)), (4, .int (ii v4)), (5, .int (ii v5))] → LX12_centre_24 F u0 u1 u2 k117 n v4 v5 h = some o → W p l e (rmn 3) s m args below meth c H locs 0 0 Q (F0 m 24 ls []) := by
  intro n
  induction n with
  | zero =>
    intro v4 v5 h H locs ls rv4 rv5 hp hl hf
    cases hf
  | succ n ih =>
    intro v4 v5 h H locs ls rv4 rv5 hp hl hf
    rw [LX12_centre_24] at hf
    refine lv_iload cx.1 cx.2.1 dX12_centre_24 (lv_at hl 4 rfl) ?_
    refine lv_aload_n cx.1 cx.2.1 dX12_centre_26 rfl (lv_at hl 0 rfl) ?_
    refine z_gets cx hp (T := TX12) 12 6 (u0 + 3) rfl zin_12 (by decide) (by decide) ru0 rfl fl_X12_16 dX12_centre_27 ?_
    refine lv_iload_n cx.1 cx.2.1 dX12_centre_30 rfl (lv_at hl 1 rfl) ?_
    refine z_iald cx hp (zs_12_6 u0 (kt_lt ru0 (by decide)) ru0) ru1 dX12_centre_31 hf (fun x2 rx2 hf => ?_)
    refine z_icmp_ge cx rv5 rx2 (tgt := 117) dX12_centre_32 (by decide) hf (fun _ hf => ?_) (fun _ hf => ?_)
    · refine z_iconst cx dX12_centre_35 ?_
      refine lv_istore (lv' := [(6, .int (ii 1)), (0, .ref (B + u0)), (1, .int (ii u1)), (2, .int (ii u2)), (4, .int (ii v4)), (5, .int (ii v5))]) cx.1 cx.2.1 dX12_centre_36 hl (by decide) rfl (fun ls hl => ?_)
      refine z_iconst cx dX12_centre_38 ?_
      refine lv_istore (lv' := [(7, .int (ii 0)), (6, .int (ii 1)), (0, .ref (B + u0)), (1, .int (ii u1)), (2, .int (ii u2)), (4, .int (ii v4)), (5, .int (ii v5))]) cx.1 cx.2.1 dX12_centre_39 hl (by decide) rfl (fun ls hl => ?_)
      refine z_jn hf (fun j => ∀ (x93_4 : Int) (x93_5 : Int) (x93_6 : Int) (h : HF) (H : Heap) (locs : List Loc) (ls : Array Slot), rng x93_4 → rng x93_5 → rng x93_6 → Hp g B s h H locs → lv_has ls 8 [(0, .ref (B + u0)), (1, .int (ii u1)), (2, .int (ii u2)), (4, .int (ii x93_4)), (5, .int (ii x93_5)), (6, .int (ii x93_6))] → j x93_4 x93_5 x93_6 h = some o → W p l e (rmn 3) s m args below meth c H locs 0 0 Q (F0 m 93 ls [])) ?_ (fun j93 hj93 hf => ?_)
      · intro x93_4 x93_5 x93_6 h H locs ls rx93_4 rx93_5 rx93_6 hp hl hf
        refine lv_iload cx.1 cx.2.1 dX12_centre_93 (lv_at hl 3 rfl) ?_
        refine lv_iload cx.1 cx.2.1 dX12_centre_95 (lv_at hl 5 rfl) ?_
        refine z_jn hf (fun j => ∀ (x108_5 : Int) (y108_0 : Int) (y108_1 : Int) (h : HF) (H : Heap) (locs : List Loc) (ls : Array Slot), rng x108_5 → rng y108_0 → rng y108_1 → Hp g B s h H locs → lv_has ls 8 [(0, .ref (B + u0)), (1, .int (ii u1)), (2, .int (ii u2)), (5, .int (ii x108_5))] → j x108_5 y108_0 y108_1 h = some o → W p l e (rmn 3) s m args below meth c H locs 0 0 Q (F0 m 108 ls [.int (ii y108_0), .int (ii y108_1)])) ?_ (fun j108 hj108 hf => ?_)
        · intro x108_5 y108_0 y108_1 h H locs ls rx108_5 ry108_0 ry108_1 hp hl hf
          refine z_ior cx dX12_centre_108 ?_
          refine z_let (rng_or _ _) hf (fun x3 rx3 hf => ?_)
          refine lv_istore (lv' := [(4, .int (ii x3)), (0, .ref (B + u0)), (1, .int (ii u1)), (2, .int (ii u2)), (5, .int (ii x108_5))]) cx.1 cx.2.1 dX12_centre_109 hl (by decide) rfl (fun ls hl => ?_)
          refine z_iinc cx (fun x4 => [(5, .int (ii x4)), (4, .int (ii x3)), (0, .ref (B + u0)), (1, .int (ii u1)), (2, .int (ii u2))]) dX12_centre_111 hl (k := 4) rfl (by decide) (fun _ => rfl) hf (fun x4 rx4 hf ls hl => ?_)
          refine lv_goto (tgt := 24) cx.1 cx.2.1 dX12_centre_114 (by decide) ?_
          exact ih x3 x4 h _ _ ls rx3 rx4 hp (lv_sub hl [2, 3, 4, 1, 0] rfl) hf
        refine z_if_eq cx rx93_6 (tgt := 107) dX12_centre_97 (by decide) hf (fun _ hf => ?_) (fun _ hf => ?_)
        · refine z_iconst cx dX12_centre_107 ?_
          exact hj108 x93_5 0 x93_4 h _ _ ls rx93_5 (by decide) rx93_4 hp (lv_sub hl [0, 1, 2, 4] rfl) hf
        · refine z_iconst cx dX12_centre_100 ?_
          refine lv_iload cx.1 cx.2.1 dX12_centre_101 (lv_at hl 4 rfl) ?_
          refine z_ishl cx dX12_centre_103 ?_
          refine lv_goto (tgt := 108) cx.1 cx.2.1 dX12_centre_104 (by decide) ?_
          exact hj108 x93_5 (wshl 1 x93_5) x93_4 h _ _ ls rx93_5 (rng_shl _ _) rx93_4 hp (lv_sub hl [0, 1, 2, 4] rfl) hf
      exact wX12_centre_41 F cx u0 ru0 u1 ru1 u2 ru2 v4 rv4 v5 rv5 j93 hj93 F 1 0 h _ _ ls (by decide) (by decide) hp (lv_sub hl [2, 3, 4, 5, 6, 1, 0] rfl) hf
    · exact hk117 v4 h _ _ ls rv4 hp (lv_sub hl [3] rfl) hf
def fX12_centre (F : Nat) (a0 : Nat) (a1 : Int) (a2 : Int) (h : HF) : RO :=
  zpf h a0 0 0 fun h =>
  zbd (fX12_refuseTwo F a0 a1 a2 h) fun r1 h =>
  if r1 = 0 then (
    zjn (fun (x117_4 : Int) (h : HF) => (
      some (x117_4, h)
    )) fun j117 =>
    LX12_centre_24 F a0 a1 a2 j117 F 0 0 h
  ) else (
    some (r1, h)
  )
set_option maxHeartbeats 4000000 in
set_option maxRecDepth 100000 in
theorem mX12_centre (F : Nat) (l : Launch) (g : zG) (B : Nat) (h : HF) (a0 : Nat) (a1 : Int) (a2 : Int) (ra0 : kt a0 = 15) (ra1 : rng a1) (ra2 : rng a2) : CTi l g B yX12_centre cX12_centre 8 (some .int) 3 [.ref (B + a0), .int (ii a1), .int (ii a2)] h (fX12_centre F a0 a1 a2 h) := by
  refine z_enterI (by decide) rfl (Nat.le_of_ble_eq_true rfl) ?_
  intro p e s m args below meth c ls o Q cx hp hl hf hQ
  have hl : lv_has ls 8 [(0, .ref (B + a0)), (1, .int (ii a1)), (2, .int (ii a2))] := hl
  unfold fX12_centre at hf
  refine lv_aload_n cx.1 cx.2.1 dX12_centre_0 rfl (lv_at hl 0 rfl) ?_
  refine z_iconst cx dX12_centre_1 ?_
  refine z_puti cx hp (T := TX12) tyX12 tyX12_ok nmX12 12 0 (by decide) rfl zin_12 (by decide) (by decide) ra0 rfl rfl rfl fl_X12_115 dX12_centre_2 hf (fun h H locs hp hf => ?_)
  refine lv_aload_n cx.1 cx.2.1 dX12_centre_5 rfl (lv_at hl 0 rfl) ?_
  refine lv_iload_n cx.1 cx.2.1 dX12_centre_6 rfl (lv_at hl 1 rfl) ?_
  refine lv_iload_n cx.1 cx.2.1 dX12_centre_7 rfl (lv_at hl 2 rfl) ?_
  refine z_ci cx hp (fun o' hx => zrunV (n := 3) (As := [.int (ii a1), .int (ii a2)]) (rest := []) cx hp (mX12_refuseTwo F l g B h a0 a1 a2 ra0 ra1 ra2 o' hx) 12 ra0 (by decide) rfl vw_X12_refuseTwo ml_X12_181 (by decide) rfl hl.1 rfl (Nat.le_of_ble_eq_true rfl) dX12_centre_8) hf (fun r1 h H locs rr1 hp hf => ?_)
  refine lv_istore_n (lv' := [(3, .int (ii r1)), (0, .ref (B + a0)), (1, .int (ii a1)), (2, .int (ii a2))]) cx.1 cx.2.1 dX12_centre_11 rfl hl (by decide) rfl (fun ls hl => ?_)
  refine lv_iload_n cx.1 cx.2.1 dX12_centre_12 rfl (lv_at hl 0 rfl) ?_
  refine z_if_eq cx rr1 (tgt := 18) dX12_centre_13 (by decide) hf (fun _ hf => ?_) (fun _ hf => ?_)
  · refine z_iconst cx dX12_centre_18 ?_
    refine lv_istore (lv' := [(4, .int (ii 0)), (3, .int (ii r1)), (0, .ref (B + a0)), (1, .int (ii a1)), (2, .int (ii a2))]) cx.1 cx.2.1 dX12_centre_19 hl (by decide) rfl (fun ls hl => ?_)
    refine z_iconst cx dX12_centre_21 ?_
    refine lv_istore (lv' := [(5, .int (ii 0)), (4, .int (ii 0)), (3, .int (ii r1)), (0, .ref (B + a0)), (1, .int (ii a1)), (2, .int (ii a2))]) cx.1 cx.2.1 dX12_centre_22 hl (by decide) rfl (fun ls hl => ?_)
    refine z_jn hf (fun j => ∀ (x117_4 : Int) (h : HF) (H : Heap) (locs : List Loc) (ls : Array Slot), rng x117_4 → Hp g B s h H locs → lv_has ls 8 [(4, .int (ii x117_4))] → j x117_4 h = some o → W p l e (rmn 3) s m args below meth c H locs 0 0 Q (F0 m 117 ls [])) ?_ (fun j117 hj117 hf => ?_)
    · intro x117_4 h H locs ls rx117_4 hp hl hf
      refine lv_iload cx.1 cx.2.1 dX12_centre_117 (lv_at hl 0 rfl) ?_
      rw [hQ]; exact z_iret cx hp rx117_4 dX12_centre_119 hf
    exact wX12_centre_24 F cx a0 ra0 a1 ra1 a2 ra2 j117 hj117 F 0 0 h _ _ ls (by decide) (by decide) hp (lv_sub hl [3, 4, 5, 1, 0] rfl) hf
  · refine lv_iload_n cx.1 cx.2.1 dX12_centre_16 rfl (lv_at hl 0 rfl) ?_
    rw [hQ]; exact z_iret cx hp rr1 dX12_centre_17 hf
theorem dX12_nextSign_0 : decode cX12_nextSign 0 = .ok (.aload_n 0, 1) := by decide +kernel
theorem dX12_nextSign_1 : decode cX12_nextSign 1 = .ok (.getfield 206, 3) := by decide +kernel
theorem dX12_nextSign_4 : decode cX12_nextSign 4 = .ok (.aload_n 0, 1) := by decide +kernel
theorem dX12_nextSign_5 : decode cX12_nextSign 5 = .ok (.getfield 209, 3) := by decide +kernel
theorem dX12_nextSign_8 : decode cX12_nextSign 8 = .ok (.if_icmp .ge 44, 3) := by decide +kernel
theorem dX12_nextSign_11 : decode cX12_nextSign 11 = .ok (.aload_n 0, 1) := by decide +kernel
theorem dX12_nextSign_12 : decode cX12_nextSign 12 = .ok (.getfield 7, 3) := by decide +kernel
theorem dX12_nextSign_15 : decode cX12_nextSign 15 = .ok (.aload_n 0, 1) := by decide +kernel
theorem dX12_nextSign_16 : decode cX12_nextSign 16 = .ok (.getfield 206, 3) := by decide +kernel
theorem dX12_nextSign_19 : decode cX12_nextSign 19 = .ok (.iaload, 1) := by decide +kernel
theorem dX12_nextSign_20 : decode cX12_nextSign 20 = .ok (.bipush 32, 2) := by decide +kernel
theorem dX12_nextSign_22 : decode cX12_nextSign 22 = .ok (.if_icmp .eq 17, 3) := by decide +kernel
theorem dX12_nextSign_25 : decode cX12_nextSign 25 = .ok (.aload_n 0, 1) := by decide +kernel
theorem dX12_nextSign_26 : decode cX12_nextSign 26 = .ok (.getfield 7, 3) := by decide +kernel
theorem dX12_nextSign_29 : decode cX12_nextSign 29 = .ok (.aload_n 0, 1) := by decide +kernel
theorem dX12_nextSign_30 : decode cX12_nextSign 30 = .ok (.getfield 206, 3) := by decide +kernel
theorem dX12_nextSign_33 : decode cX12_nextSign 33 = .ok (.iaload, 1) := by decide +kernel
theorem dX12_nextSign_34 : decode cX12_nextSign 34 = .ok (.bipush 10, 2) := by decide +kernel
theorem dX12_nextSign_36 : decode cX12_nextSign 36 = .ok (.if_icmp .ne 16, 3) := by decide +kernel
theorem dX12_nextSign_39 : decode cX12_nextSign 39 = .ok (.aload_n 0, 1) := by decide +kernel
theorem dX12_nextSign_40 : decode cX12_nextSign 40 = .ok (.dup, 1) := by decide +kernel
theorem dX12_nextSign_41 : decode cX12_nextSign 41 = .ok (.getfield 206, 3) := by decide +kernel
theorem dX12_nextSign_44 : decode cX12_nextSign 44 = .ok (.iconst 1, 1) := by decide +kernel
theorem dX12_nextSign_45 : decode cX12_nextSign 45 = .ok (.iadd, 1) := by decide +kernel
theorem dX12_nextSign_46 : decode cX12_nextSign 46 = .ok (.putfield 206, 3) := by decide +kernel
theorem dX12_nextSign_49 : decode cX12_nextSign 49 = .ok (.goto (-49), 3) := by decide +kernel
theorem dX12_nextSign_52 : decode cX12_nextSign 52 = .ok (.aload_n 0, 1) := by decide +kernel
theorem dX12_nextSign_53 : decode cX12_nextSign 53 = .ok (.aload_n 0, 1) := by decide +kernel
theorem dX12_nextSign_54 : decode cX12_nextSign 54 = .ok (.getfield 206, 3) := by decide +kernel
theorem dX12_nextSign_57 : decode cX12_nextSign 57 = .ok (.putfield 212, 3) := by decide +kernel
theorem dX12_nextSign_60 : decode cX12_nextSign 60 = .ok (.aload_n 0, 1) := by decide +kernel
theorem dX12_nextSign_61 : decode cX12_nextSign 61 = .ok (.aload_n 0, 1) := by decide +kernel
theorem dX12_nextSign_62 : decode cX12_nextSign 62 = .ok (.getfield 206, 3) := by decide +kernel
theorem dX12_nextSign_65 : decode cX12_nextSign 65 = .ok (.aload_n 0, 1) := by decide +kernel
theorem dX12_nextSign_66 : decode cX12_nextSign 66 = .ok (.getfield 209, 3) := by decide +kernel
theorem dX12_nextSign_69 : decode cX12_nextSign 69 = .ok (.if_icmp .ge 15, 3) := by decide +kernel
theorem dX12_nextSign_72 : decode cX12_nextSign 72 = .ok (.aload_n 0, 1) := by decide +kernel
theorem dX12_nextSign_73 : decode cX12_nextSign 73 = .ok (.getfield 7, 3) := by decide +kernel
theorem dX12_nextSign_76 : decode cX12_nextSign 76 = .ok (.aload_n 0, 1) := by decide +kernel
theorem dX12_nextSign_77 : decode cX12_nextSign 77 = .ok (.getfield 206, 3) := by decide +kernel
theorem dX12_nextSign_80 : decode cX12_nextSign 80 = .ok (.iaload, 1) := by decide +kernel
theorem dX12_nextSign_81 : decode cX12_nextSign 81 = .ok (.goto 4, 3) := by decide +kernel
theorem dX12_nextSign_84 : decode cX12_nextSign 84 = .ok (.iconst (-1), 1) := by decide +kernel
theorem dX12_nextSign_85 : decode cX12_nextSign 85 = .ok (.putfield 215, 3) := by decide +kernel
theorem dX12_nextSign_88 : decode cX12_nextSign 88 = .ok (.aload_n 0, 1) := by decide +kernel
theorem dX12_nextSign_89 : decode cX12_nextSign 89 = .ok (.dup, 1) := by decide +kernel
theorem dX12_nextSign_90 : decode cX12_nextSign 90 = .ok (.getfield 206, 3) := by decide +kernel
theorem dX12_nextSign_93 : decode cX12_nextSign 93 = .ok (.iconst 1, 1) := by decide +kernel
theorem dX12_nextSign_94 : decode cX12_nextSign 94 = .ok (.iadd, 1) := by decide +kernel
theorem dX12_nextSign_95 : decode cX12_nextSign 95 = .ok (.putfield 206, 3) := by decide +kernel
theorem dX12_nextSign_98 : decode cX12_nextSign 98 = .ok (.return_, 1) := by decide +kernel
def LX12_nextSign_0 (F : Nat) (u0 : Nat) (k52 : HF → RO) : Nat → HF → RO
  | 0, _ => none
  | n + 1, h =>
    zgf h u0 32 fun x7 =>
    zgf h u0 31 fun x8 =>
    if x7 < x8 then (
      zgf h u0 32 fun x9 =>
      zrd h (u0 + 1) x9 fun x10 =>
      zjn (fun  (h : HF) => (
        zgf h u0 32 fun x11 =>
        zpf h u0 32 (wr (x11 + 1)) fun h =>
        LX12_nextSign_0 F u0 k52 n  h
      )) fun j39 =>
      if x10 = 32 then (
        j39  h
      ) else (
        zgf h u0 32 fun x12 =>
        zrd h (u0 + 1) x12 fun x13 =>
        if x13 = 10 then (
          j39  h
        ) else (
          k52  h
        )
      )
    ) else (
      k52  h
    )
set_option maxHeartbeats 4000000 in
set_option maxRecDepth 100000 in
theorem wX12_nextSign_0 {p : Program} {l : Launch} {e : Env} {s : State} {m : MethodId} {args : Array Value} {below : List Frame} {meth : Method} {c : Code} {Q : State → Prop} {g : zG} {B : Nat} {o : Int × HF} (F : Nat) (cx : Cx p s m args meth c cX12_nextSign 1 RX12 none g B) (u0 : Nat) (ru0 : kt u0 = 15) (k52 : HF → RO) (hk52 : ∀  (h : HF) (H : Heap) (locs : List Loc) (ls : Array Slot), Hp g B s h H locs → lv_has ls 1 [(0, .ref (B + u0))] → k52  h = some o → W p l e (rmn 0) s m args below meth c H locs 0 0 Q (F0 m 52 ls [])) : ∀ (n : Nat)  (h : HF) (H : Heap) (locs : List Loc) (ls : Array Slot), Hp g B s h H locs → lv_has ls 1 [(0, .ref (B + u0))] → LX12_nextSign_0 F u0 k52 n  h = some o → W p l e (rmn 0) s m args below meth c H locs 0 0 Q (F0 m 0 ls []) := by
  intro n
  induction n with
  | zero =>
    intro  h H locs ls  hp hl hf
    cases hf
  | succ n ih =>
    intro  h H locs ls  hp hl hf
    rw [LX12_nextSign_0] at hf
    refine lv_aload_n cx.1 cx.2.1 dX12_nextSign_0 rfl (lv_at hl 0 rfl) ?_
    refine z_geti cx hp (T := TX12) 12 32 rfl zin_12 (by decide) (by decide) ru0 rfl fl_X12_206 dX12_nextSign_1 hf (fun x7 rx7 hf => ?_)
    refine lv_aload_n cx.1 cx.2.1 dX12_nextSign_4 rfl (lv_at hl 0 rfl) ?_
    refine z_geti cx hp (T := TX12) 12 31 rfl zin_12 (by decide) (by decide) ru0 rfl fl_X12_209 dX12_nextSign_5 hf (fun x8 rx8 hf => ?_)
    refine z_icmp_ge cx rx7 rx8 (tgt := 52) dX12_nextSign_8 (by decide) hf (fun _ hf => ?_) (fun _ hf => ?_)
    · refine lv_aload_n cx.1 cx.2.1 dX12_nextSign_11 rfl (lv_at hl 0 rfl) ?_
      refine z_gets cx hp (T := TX12) 12 1 (u0 + 1) rfl zin_12 (by decide) (by decide) ru0 rfl fl_X12_7 dX12_nextSign_12 ?_
      refine lv_aload_n cx.1 cx.2.1 dX12_nextSign_15 rfl (lv_at hl 0 rfl) ?_
      refine z_geti cx hp (T := TX12) 12 32 rfl zin_12 (by decide) (by decide) ru0 rfl fl_X12_206 dX12_nextSign_16 hf (fun x9 rx9 hf => ?_)
      refine z_iald cx hp (zs_12_1 u0 (kt_lt ru0 (by decide)) ru0) rx9 dX12_nextSign_19 hf (fun x10 rx10 hf => ?_)
      refine z_bipush cx (by decide) dX12_nextSign_20 ?_
      refine z_jn hf (fun j => ∀  (h : HF) (H : Heap) (locs : List Loc) (ls : Array Slot), Hp g B s h H locs → lv_has ls 1 [(0, .ref (B + u0))] → j  h = some o → W p l e (rmn 0) s m args below meth c H locs 0 0 Q (F0 m 39 ls [])) ?_ (fun j39 hj39 hf => ?_)
      · intro  h H locs ls  hp hl hf
        refine lv_aload_n cx.1 cx.2.1 dX12_nextSign_39 rfl (lv_at hl 0 rfl) ?_
        refine lv_dup cx.1 cx.2.1 dX12_nextSign_40 rfl ?_
        refine z_geti cx hp (T := TX12) 12 32 rfl zin_12 (by decide) (by decide) ru0 rfl fl_X12_206 dX12_nextSign_41 hf (fun x11 rx11 hf => ?_)
        refine z_iconst cx dX12_nextSign_44 ?_
        refine z_iadd cx dX12_nextSign_45 ?_
        refine z_puti cx hp (T := TX12) tyX12 tyX12_ok nmX12 12 32 (rng_wr _) rfl zin_12 (by decide) (by decide) ru0 rfl rfl rfl fl_X12_206 dX12_nextSign_46 hf (fun h H locs hp hf => ?_)
        refine lv_goto (tgt := 0) cx.1 cx.2.1 dX12_nextSign_49 (by decide) ?_
        exact ih  h _ _ ls  hp (lv_sub hl [0] rfl) hf
      refine z_icmp_eq cx rx10 (by decide) (tgt := 39) dX12_nextSign_22 (by decide) hf (fun _ hf => ?_) (fun _ hf => ?_)
      · exact hj39  h _ _ ls  hp (lv_sub hl [0] rfl) hf
      · refine lv_aload_n cx.1 cx.2.1 dX12_nextSign_25 rfl (lv_at hl 0 rfl) ?_
        refine z_gets cx hp (T := TX12) 12 1 (u0 + 1) rfl zin_12 (by decide) (by decide) ru0 rfl fl_X12_7 dX12_nextSign_26 ?_
        refine lv_aload_n cx.1 cx.2.1 dX12_nextSign_29 rfl (lv_at hl 0 rfl) ?_
        refine z_geti cx hp (T := TX12) 12 32 rfl zin_12 (by decide) (by decide) ru0 rfl fl_X12_206 dX12_nextSign_30 hf (fun x12 rx12 hf => ?_)
        refine z_iald cx hp (zs_12_1 u0 (kt_lt ru0 (by decide)) ru0) rx12 dX12_nextSign_33 hf (fun x13 rx13 hf => ?_)
        refine z_bipush cx (by decide) dX12_nextSign_34 ?_
        refine z_icmp_ne cx rx13 (by decide) (tgt := 52) dX12_nextSign_36 (by decide) hf (fun _ hf => ?_) (fun _ hf => ?_)
        · exact hj39  h _ _ ls  hp (lv_sub hl [0] rfl) hf
        · exact hk52  h _ _ ls  hp (lv_sub hl [0] rfl) hf
    · exact hk52  h _ _ ls  hp (lv_sub hl [0] rfl) hf
def fX12_nextSign (F : Nat) (a0 : Nat) (h : HF) : RO :=
  zjn (fun  (h : HF) => (
    zgf h a0 32 fun x1 =>
    zpf h a0 34 x1 fun h =>
    zgf h a0 32 fun x2 =>
    zgf h a0 31 fun x3 =>
    zjn (fun (y85_0 : Int) (y85_1 : Nat) (h : HF) => (
      zpf h y85_1 33 y85_0 fun h =>
      zgf h a0 32 fun x4 =>
      zpf h a0 32 (wr (x4 + 1)) fun h =>
      some (0, h)
    )) fun j85 =>
    if x2 < x3 then (
      zgf h a0 32 fun x5 =>
      zrd h (a0 + 1) x5 fun x6 =>
      j85 x6 a0 h
    ) else (
      j85 (-1) a0 h
    )
  )) fun j52 =>
  LX12_nextSign_0 F a0 j52 F  h
set_option maxHeartbeats 4000000 in
set_option maxRecDepth 100000 in
theorem mX12_nextSign (F : Nat) (l : Launch) (g : zG) (B : Nat) (h : HF) (a0 : Nat) (ra0 : kt a0 = 15) : CTv l g B yX12_nextSign cX12_nextSign 1 0 [.ref (B + a0)] h (fX12_nextSign F a0 h) := by
  refine z_enterV (by decide) rfl (Nat.le_of_ble_eq_true rfl) ?_
  intro p e s m args below meth c ls o Q cx hp hl hf hQ
  have hl : lv_has ls 1 [(0, .ref (B + a0))] := hl
  unfold fX12_nextSign at hf
  refine z_jn hf (fun j => ∀  (h : HF) (H : Heap) (locs : List Loc) (ls : Array Slot), Hp g B s h H locs → lv_has ls 1 [(0, .ref (B + a0))] → j  h = some o → W p l e (rmn 0) s m args below meth c H locs 0 0 Q (F0 m 52 ls [])) ?_ (fun j52 hj52 hf => ?_)
  · intro  h H locs ls  hp hl hf
    refine lv_aload_n cx.1 cx.2.1 dX12_nextSign_52 rfl (lv_at hl 0 rfl) ?_
    refine lv_aload_n cx.1 cx.2.1 dX12_nextSign_53 rfl (lv_at hl 0 rfl) ?_
    refine z_geti cx hp (T := TX12) 12 32 rfl zin_12 (by decide) (by decide) ra0 rfl fl_X12_206 dX12_nextSign_54 hf (fun x1 rx1 hf => ?_)
    refine z_puti cx hp (T := TX12) tyX12 tyX12_ok nmX12 12 34 rx1 rfl zin_12 (by decide) (by decide) ra0 rfl rfl rfl fl_X12_212 dX12_nextSign_57 hf (fun h H locs hp hf => ?_)
    refine lv_aload_n cx.1 cx.2.1 dX12_nextSign_60 rfl (lv_at hl 0 rfl) ?_
    refine lv_aload_n cx.1 cx.2.1 dX12_nextSign_61 rfl (lv_at hl 0 rfl) ?_
    refine z_geti cx hp (T := TX12) 12 32 rfl zin_12 (by decide) (by decide) ra0 rfl fl_X12_206 dX12_nextSign_62 hf (fun x2 rx2 hf => ?_)
    refine lv_aload_n cx.1 cx.2.1 dX12_nextSign_65 rfl (lv_at hl 0 rfl) ?_
    refine z_geti cx hp (T := TX12) 12 31 rfl zin_12 (by decide) (by decide) ra0 rfl fl_X12_209 dX12_nextSign_66 hf (fun x3 rx3 hf => ?_)
    refine z_jn hf (fun j => ∀ (y85_0 : Int) (y85_1 : Nat) (h : HF) (H : Heap) (locs : List Loc) (ls : Array Slot), rng y85_0 → kt y85_1 = 15 → Hp g B s h H locs → lv_has ls 1 [(0, .ref (B + a0))] → j y85_0 y85_1 h = some o → W p l e (rmn 0) s m args below meth c H locs 0 0 Q (F0 m 85 ls [.int (ii y85_0), .ref (B + y85_1)])) ?_ (fun j85 hj85 hf => ?_)
    · intro y85_0 y85_1 h H locs ls ry85_0 ry85_1 hp hl hf
      refine z_puti cx hp (T := TX12) tyX12 tyX12_ok nmX12 12 33 ry85_0 rfl zin_12 (by decide) (by decide) ry85_1 rfl rfl rfl fl_X12_215 dX12_nextSign_85 hf (fun h H locs hp hf => ?_)
      refine lv_aload_n cx.1 cx.2.1 dX12_nextSign_88 rfl (lv_at hl 0 rfl) ?_
      refine lv_dup cx.1 cx.2.1 dX12_nextSign_89 rfl ?_
      refine z_geti cx hp (T := TX12) 12 32 rfl zin_12 (by decide) (by decide) ra0 rfl fl_X12_206 dX12_nextSign_90 hf (fun x4 rx4 hf => ?_)
      refine z_iconst cx dX12_nextSign_93 ?_
      refine z_iadd cx dX12_nextSign_94 ?_
      refine z_puti cx hp (T := TX12) tyX12 tyX12_ok nmX12 12 32 (rng_wr _) rfl zin_12 (by decide) (by decide) ra0 rfl rfl rfl fl_X12_206 dX12_nextSign_95 hf (fun h H locs hp hf => ?_)
      rw [hQ]; exact z_vret cx hp dX12_nextSign_98 hf
    refine z_icmp_ge cx rx2 rx3 (tgt := 84) dX12_nextSign_69 (by decide) hf (fun _ hf => ?_) (fun _ hf => ?_)
    · refine lv_aload_n cx.1 cx.2.1 dX12_nextSign_72 rfl (lv_at hl 0 rfl) ?_
      refine z_gets cx hp (T := TX12) 12 1 (a0 + 1) rfl zin_12 (by decide) (by decide) ra0 rfl fl_X12_7 dX12_nextSign_73 ?_
      refine lv_aload_n cx.1 cx.2.1 dX12_nextSign_76 rfl (lv_at hl 0 rfl) ?_
      refine z_geti cx hp (T := TX12) 12 32 rfl zin_12 (by decide) (by decide) ra0 rfl fl_X12_206 dX12_nextSign_77 hf (fun x5 rx5 hf => ?_)
      refine z_iald cx hp (zs_12_1 a0 (kt_lt ra0 (by decide)) ra0) rx5 dX12_nextSign_80 hf (fun x6 rx6 hf => ?_)
      refine lv_goto (tgt := 85) cx.1 cx.2.1 dX12_nextSign_81 (by decide) ?_
      exact hj85 x6 a0 h _ _ ls rx6 ra0 hp (lv_sub hl [0] rfl) hf
    · refine z_iconst cx dX12_nextSign_84 ?_
      exact hj85 (-1) a0 h _ _ ls (by decide) ra0 hp (lv_sub hl [0] rfl) hf
  exact wX12_nextSign_0 F cx a0 ra0 j52 hj52 F  h _ _ ls  hp (lv_sub hl [0] rfl) hf
theorem dX12_wrong_0 : decode cX12_wrong 0 = .ok (.aload_n 0, 1) := by decide +kernel
theorem dX12_wrong_1 : decode cX12_wrong 1 = .ok (.getfield 218, 3) := by decide +kernel
theorem dX12_wrong_4 : decode cX12_wrong 4 = .ok (.ifCond .ne 16, 3) := by decide +kernel
theorem dX12_wrong_7 : decode cX12_wrong 7 = .ok (.aload_n 0, 1) := by decide +kernel
theorem dX12_wrong_8 : decode cX12_wrong 8 = .ok (.iload_n 1, 1) := by decide +kernel
theorem dX12_wrong_9 : decode cX12_wrong 9 = .ok (.putfield 218, 3) := by decide +kernel
theorem dX12_wrong_12 : decode cX12_wrong 12 = .ok (.aload_n 0, 1) := by decide +kernel
theorem dX12_wrong_13 : decode cX12_wrong 13 = .ok (.aload_n 0, 1) := by decide +kernel
theorem dX12_wrong_14 : decode cX12_wrong 14 = .ok (.getfield 212, 3) := by decide +kernel
theorem dX12_wrong_17 : decode cX12_wrong 17 = .ok (.putfield 221, 3) := by decide +kernel
theorem dX12_wrong_20 : decode cX12_wrong 20 = .ok (.return_, 1) := by decide +kernel
def fX12_wrong (F : Nat) (a0 : Nat) (a1 : Int) (h : HF) : RO :=
  zgf h a0 35 fun x1 =>
  zjn (fun  (h : HF) => (
    some (0, h)
  )) fun j20 =>
  if x1 = 0 then (
    zpf h a0 35 a1 fun h =>
    zgf h a0 34 fun x2 =>
    zpf h a0 36 x2 fun h =>
    j20  h
  ) else (
    j20  h
  )
set_option maxHeartbeats 4000000 in
set_option maxRecDepth 100000 in
theorem mX12_wrong (F : Nat) (l : Launch) (g : zG) (B : Nat) (h : HF) (a0 : Nat) (a1 : Int) (ra0 : kt a0 = 15) (ra1 : rng a1) : CTv l g B yX12_wrong cX12_wrong 2 0 [.ref (B + a0), .int (ii a1)] h (fX12_wrong F a0 a1 h) := by
  refine z_enterV (by decide) rfl (Nat.le_of_ble_eq_true rfl) ?_
  intro p e s m args below meth c ls o Q cx hp hl hf hQ
  have hl : lv_has ls 2 [(0, .ref (B + a0)), (1, .int (ii a1))] := hl
  unfold fX12_wrong at hf
  refine lv_aload_n cx.1 cx.2.1 dX12_wrong_0 rfl (lv_at hl 0 rfl) ?_
  refine z_geti cx hp (T := TX12) 12 35 rfl zin_12 (by decide) (by decide) ra0 rfl fl_X12_218 dX12_wrong_1 hf (fun x1 rx1 hf => ?_)
  refine z_jn hf (fun j => ∀  (h : HF) (H : Heap) (locs : List Loc) (ls : Array Slot), Hp g B s h H locs → lv_has ls 2 [] → j  h = some o → W p l e (rmn 0) s m args below meth c H locs 0 0 Q (F0 m 20 ls [])) ?_ (fun j20 hj20 hf => ?_)
  · intro  h H locs ls  hp hl hf
    rw [hQ]; exact z_vret cx hp dX12_wrong_20 hf
  refine z_if_ne cx rx1 (tgt := 20) dX12_wrong_4 (by decide) hf (fun _ hf => ?_) (fun _ hf => ?_)
  · refine lv_aload_n cx.1 cx.2.1 dX12_wrong_7 rfl (lv_at hl 0 rfl) ?_
    refine lv_iload_n cx.1 cx.2.1 dX12_wrong_8 rfl (lv_at hl 1 rfl) ?_
    refine z_puti cx hp (T := TX12) tyX12 tyX12_ok nmX12 12 35 ra1 rfl zin_12 (by decide) (by decide) ra0 rfl rfl rfl fl_X12_218 dX12_wrong_9 hf (fun h H locs hp hf => ?_)
    refine lv_aload_n cx.1 cx.2.1 dX12_wrong_12 rfl (lv_at hl 0 rfl) ?_
    refine lv_aload_n cx.1 cx.2.1 dX12_wrong_13 rfl (lv_at hl 0 rfl) ?_
    refine z_geti cx hp (T := TX12) 12 34 rfl zin_12 (by decide) (by decide) ra0 rfl fl_X12_212 dX12_wrong_14 hf (fun x2 rx2 hf => ?_)
    refine z_puti cx hp (T := TX12) tyX12 tyX12_ok nmX12 12 36 rx2 rfl zin_12 (by decide) (by decide) ra0 rfl rfl rfl fl_X12_221 dX12_wrong_17 hf (fun h H locs hp hf => ?_)
    exact hj20  h _ _ ls  hp (lv_sub hl [] rfl) hf
  · exact hj20  h _ _ ls  hp (lv_sub hl [] rfl) hf
theorem dX12_takes_0 : decode cX12_takes 0 = .ok (.aload_n 0, 1) := by decide +kernel
theorem dX12_takes_1 : decode cX12_takes 1 = .ok (.getfield 218, 3) := by decide +kernel
theorem dX12_takes_4 : decode cX12_takes 4 = .ok (.ifCond .ne 15, 3) := by decide +kernel
theorem dX12_takes_7 : decode cX12_takes 7 = .ok (.aload_n 0, 1) := by decide +kernel
theorem dX12_takes_8 : decode cX12_takes 8 = .ok (.getfield 215, 3) := by decide +kernel
theorem dX12_takes_11 : decode cX12_takes 11 = .ok (.iload_n 1, 1) := by decide +kernel
theorem dX12_takes_12 : decode cX12_takes 12 = .ok (.if_icmp .ne 7, 3) := by decide +kernel
theorem dX12_takes_15 : decode cX12_takes 15 = .ok (.iconst 1, 1) := by decide +kernel
theorem dX12_takes_16 : decode cX12_takes 16 = .ok (.goto 4, 3) := by decide +kernel
theorem dX12_takes_19 : decode cX12_takes 19 = .ok (.iconst 0, 1) := by decide +kernel
theorem dX12_takes_20 : decode cX12_takes 20 = .ok (.istore_n 2, 1) := by decide +kernel
theorem dX12_takes_21 : decode cX12_takes 21 = .ok (.iload_n 2, 1) := by decide +kernel
theorem dX12_takes_22 : decode cX12_takes 22 = .ok (.ifCond .eq 7, 3) := by decide +kernel
theorem dX12_takes_25 : decode cX12_takes 25 = .ok (.aload_n 0, 1) := by decide +kernel
theorem dX12_takes_26 : decode cX12_takes 26 = .ok (.invokevirtual 224, 3) := by decide +kernel
theorem dX12_takes_29 : decode cX12_takes 29 = .ok (.iload_n 2, 1) := by decide +kernel
theorem dX12_takes_30 : decode cX12_takes 30 = .ok (.ireturn, 1) := by decide +kernel
def fX12_takes (F : Nat) (a0 : Nat) (a1 : Int) (h : HF) : RO :=
  zgf h a0 35 fun x1 =>
  zjn (fun (y20_0 : Int) (h : HF) => (
    zjn (fun (x29_2 : Int) (h : HF) => (
      zrz x29_2 h
    )) fun j29 =>
    if y20_0 = 0 then (
      j29 y20_0 h
    ) else (
      zbd (fX12_nextSign F a0 h) fun _ h =>
      j29 y20_0 h
    )
  )) fun j20 =>
  zjn (fun  (h : HF) => (
    j20 0 h
  )) fun j19 =>
  if x1 = 0 then (
    zgf h a0 33 fun x3 =>
    if x3 = a1 then (
      j20 1 h
    ) else (
      j19  h
    )
  ) else (
    j19  h
  )
set_option maxHeartbeats 4000000 in
set_option maxRecDepth 100000 in
theorem mX12_takes (F : Nat) (l : Launch) (g : zG) (B : Nat) (h : HF) (a0 : Nat) (a1 : Int) (ra0 : kt a0 = 15) (ra1 : rng a1) : CTi l g B yX12_takes cX12_takes 3 (some .boolean) 1 [.ref (B + a0), .int (ii a1)] h (fX12_takes F a0 a1 h) := by
  refine z_enterI (by decide) rfl (Nat.le_of_ble_eq_true rfl) ?_
  intro p e s m args below meth c ls o Q cx hp hl hf hQ
  have hl : lv_has ls 3 [(0, .ref (B + a0)), (1, .int (ii a1))] := hl
  unfold fX12_takes at hf
  refine lv_aload_n cx.1 cx.2.1 dX12_takes_0 rfl (lv_at hl 0 rfl) ?_
  refine z_geti cx hp (T := TX12) 12 35 rfl zin_12 (by decide) (by decide) ra0 rfl fl_X12_218 dX12_takes_1 hf (fun x1 rx1 hf => ?_)
  refine z_jn hf (fun j => ∀ (y20_0 : Int) (h : HF) (H : Heap) (locs : List Loc) (ls : Array Slot), rng y20_0 → Hp g B s h H locs → lv_has ls 3 [(0, .ref (B + a0))] → j y20_0 h = some o → W p l e (rmn 1) s m args below meth c H locs 0 0 Q (F0 m 20 ls [.int (ii y20_0)])) ?_ (fun j20 hj20 hf => ?_)
  · intro y20_0 h H locs ls ry20_0 hp hl hf
    refine lv_istore_n (lv' := [(2, .int (ii y20_0)), (0, .ref (B + a0))]) cx.1 cx.2.1 dX12_takes_20 rfl hl (by decide) rfl (fun ls hl => ?_)
    refine lv_iload_n cx.1 cx.2.1 dX12_takes_21 rfl (lv_at hl 0 rfl) ?_
    refine z_jn hf (fun j => ∀ (x29_2 : Int) (h : HF) (H : Heap) (locs : List Loc) (ls : Array Slot), rng x29_2 → Hp g B s h H locs → lv_has ls 3 [(2, .int (ii x29_2))] → j x29_2 h = some o → W p l e (rmn 1) s m args below meth c H locs 0 0 Q (F0 m 29 ls [])) ?_ (fun j29 hj29 hf => ?_)
    · intro x29_2 h H locs ls rx29_2 hp hl hf
      refine lv_iload_n cx.1 cx.2.1 dX12_takes_29 rfl (lv_at hl 0 rfl) ?_
      rw [hQ]; exact z_zret cx hp dX12_takes_30 hf
    refine z_if_eq cx ry20_0 (tgt := 29) dX12_takes_22 (by decide) hf (fun _ hf => ?_) (fun _ hf => ?_)
    · exact hj29 y20_0 h _ _ ls ry20_0 hp (lv_sub hl [0] rfl) hf
    · refine lv_aload_n cx.1 cx.2.1 dX12_takes_25 rfl (lv_at hl 1 rfl) ?_
      refine z_cv cx hp (fun o' hx => zrunV (n := 1) (As := []) (rest := []) cx hp (mX12_nextSign F l g B h a0 ra0 o' hx) 12 ra0 (by decide) rfl vw_X12_nextSign ml_X12_224 (by decide) rfl hl.1 rfl (Nat.le_of_ble_eq_true rfl) dX12_takes_26) hf (fun _ h H locs hp hf => ?_)
      exact hj29 y20_0 h _ _ ls ry20_0 hp (lv_sub hl [0] rfl) hf
  refine z_jn hf (fun j => ∀  (h : HF) (H : Heap) (locs : List Loc) (ls : Array Slot), Hp g B s h H locs → lv_has ls 3 [(0, .ref (B + a0))] → j  h = some o → W p l e (rmn 1) s m args below meth c H locs 0 0 Q (F0 m 19 ls [])) ?_ (fun j19 hj19 hf => ?_)
  · intro  h H locs ls  hp hl hf
    refine z_iconst cx dX12_takes_19 ?_
    exact hj20 0 h _ _ ls (by decide) hp (lv_sub hl [0] rfl) hf
  refine z_if_ne cx rx1 (tgt := 19) dX12_takes_4 (by decide) hf (fun _ hf => ?_) (fun _ hf => ?_)
  · refine lv_aload_n cx.1 cx.2.1 dX12_takes_7 rfl (lv_at hl 0 rfl) ?_
    refine z_geti cx hp (T := TX12) 12 33 rfl zin_12 (by decide) (by decide) ra0 rfl fl_X12_215 dX12_takes_8 hf (fun x3 rx3 hf => ?_)
    refine lv_iload_n cx.1 cx.2.1 dX12_takes_11 rfl (lv_at hl 1 rfl) ?_
    refine z_icmp_ne cx rx3 ra1 (tgt := 19) dX12_takes_12 (by decide) hf (fun _ hf => ?_) (fun _ hf => ?_)
    · refine z_iconst cx dX12_takes_15 ?_
      refine lv_goto (tgt := 20) cx.1 cx.2.1 dX12_takes_16 (by decide) ?_
      exact hj20 1 h _ _ ls (by decide) hp (lv_sub hl [0] rfl) hf
    · exact hj19  h _ _ ls  hp (lv_sub hl [0] rfl) hf
  · exact hj19  h _ _ ls  hp (lv_sub hl [0] rfl) hf
theorem dX12_must_0 : decode cX12_must 0 = .ok (.aload_n 0, 1) := by decide +kernel
theorem dX12_must_1 : decode cX12_must 1 = .ok (.iload_n 1, 1) := by decide +kernel
theorem dX12_must_2 : decode cX12_must 2 = .ok (.invokevirtual 227, 3) := by decide +kernel
theorem dX12_must_5 : decode cX12_must 5 = .ok (.ifCond .ne 8, 3) := by decide +kernel
theorem dX12_must_8 : decode cX12_must 8 = .ok (.aload_n 0, 1) := by decide +kernel
theorem dX12_must_9 : decode cX12_must 9 = .ok (.iconst 1, 1) := by decide +kernel
theorem dX12_must_10 : decode cX12_must 10 = .ok (.invokevirtual 230, 3) := by decide +kernel
theorem dX12_must_13 : decode cX12_must 13 = .ok (.return_, 1) := by decide +kernel
def fX12_must (F : Nat) (a0 : Nat) (a1 : Int) (h : HF) : RO :=
  zbd (fX12_takes F a0 a1 h) fun r1 h =>
  zjn (fun  (h : HF) => (
    some (0, h)
  )) fun j13 =>
  if r1 = 0 then (
    zbd (fX12_wrong F a0 1 h) fun _ h =>
    j13  h
  ) else (
    j13  h
  )
set_option maxHeartbeats 4000000 in
set_option maxRecDepth 100000 in
theorem mX12_must (F : Nat) (l : Launch) (g : zG) (B : Nat) (h : HF) (a0 : Nat) (a1 : Int) (ra0 : kt a0 = 15) (ra1 : rng a1) : CTv l g B yX12_must cX12_must 2 2 [.ref (B + a0), .int (ii a1)] h (fX12_must F a0 a1 h) := by
  refine z_enterV (by decide) rfl (Nat.le_of_ble_eq_true rfl) ?_
  intro p e s m args below meth c ls o Q cx hp hl hf hQ
  have hl : lv_has ls 2 [(0, .ref (B + a0)), (1, .int (ii a1))] := hl
  unfold fX12_must at hf
  refine lv_aload_n cx.1 cx.2.1 dX12_must_0 rfl (lv_at hl 0 rfl) ?_
  refine lv_iload_n cx.1 cx.2.1 dX12_must_1 rfl (lv_at hl 1 rfl) ?_
  refine z_ci cx hp (fun o' hx => zrunV (n := 2) (As := [.int (ii a1)]) (rest := []) cx hp (mX12_takes F l g B h a0 a1 ra0 ra1 o' hx) 12 ra0 (by decide) rfl vw_X12_takes ml_X12_227 (by decide) rfl hl.1 rfl (Nat.le_of_ble_eq_true rfl) dX12_must_2) hf (fun r1 h H locs rr1 hp hf => ?_)
  refine z_jn hf (fun j => ∀  (h : HF) (H : Heap) (locs : List Loc) (ls : Array Slot), Hp g B s h H locs → lv_has ls 2 [] → j  h = some o → W p l e (rmn 2) s m args below meth c H locs 0 0 Q (F0 m 13 ls [])) ?_ (fun j13 hj13 hf => ?_)
  · intro  h H locs ls  hp hl hf
    rw [hQ]; exact z_vret cx hp dX12_must_13 hf
  refine z_if_ne cx rr1 (tgt := 13) dX12_must_5 (by decide) hf (fun _ hf => ?_) (fun _ hf => ?_)
  · refine lv_aload_n cx.1 cx.2.1 dX12_must_8 rfl (lv_at hl 0 rfl) ?_
    refine z_iconst cx dX12_must_9 ?_
    refine z_cv cx hp (fun o' hx => zrunV (n := 2) (As := [.int (ii 1)]) (rest := []) cx hp (mX12_wrong F l g B h a0 1 ra0 (by decide) o' hx) 12 ra0 (by decide) rfl vw_X12_wrong ml_X12_230 (by decide) rfl hl.1 rfl (Nat.le_of_ble_eq_true rfl) dX12_must_10) hf (fun _ h H locs hp hf => ?_)
    exact hj13  h _ _ ls  hp (lv_sub hl [] rfl) hf
  · exact hj13  h _ _ ls  hp (lv_sub hl [] rfl) hf
theorem dX12_isVariable_0 : decode cX12_isVariable 0 = .ok (.iload_n 0, 1) := by decide +kernel
theorem dX12_isVariable_1 : decode cX12_isVariable 1 = .ok (.bipush 120, 2) := by decide +kernel
theorem dX12_isVariable_3 : decode cX12_isVariable 3 = .ok (.if_icmp .lt 13, 3) := by decide +kernel
theorem dX12_isVariable_6 : decode cX12_isVariable 6 = .ok (.iload_n 0, 1) := by decide +kernel
theorem dX12_isVariable_7 : decode cX12_isVariable 7 = .ok (.bipush 122, 2) := by decide +kernel
theorem dX12_isVariable_9 : decode cX12_isVariable 9 = .ok (.if_icmp .gt 7, 3) := by decide +kernel
theorem dX12_isVariable_12 : decode cX12_isVariable 12 = .ok (.iconst 1, 1) := by decide +kernel
theorem dX12_isVariable_13 : decode cX12_isVariable 13 = .ok (.goto 4, 3) := by decide +kernel
theorem dX12_isVariable_16 : decode cX12_isVariable 16 = .ok (.iconst 0, 1) := by decide +kernel
theorem dX12_isVariable_17 : decode cX12_isVariable 17 = .ok (.ireturn, 1) := by decide +kernel
def fX12_isVariable (F : Nat) (a0 : Int) (h : HF) : RO :=
  zjn (fun (y17_0 : Int) (h : HF) => (
    zrz y17_0 h
  )) fun j17 =>
  zjn (fun  (h : HF) => (
    j17 0 h
  )) fun j16 =>
  if a0 < 120 then (
    j16  h
  ) else (
    if 122 < a0 then (
      j16  h
    ) else (
      j17 1 h
    )
  )
set_option maxHeartbeats 4000000 in
set_option maxRecDepth 100000 in
theorem mX12_isVariable (F : Nat) (l : Launch) (g : zG) (B : Nat) (h : HF) (a0 : Int) (ra0 : rng a0) : CTi l g B yX12_isVariable cX12_isVariable 1 (some .boolean) 0 [.int (ii a0)] h (fX12_isVariable F a0 h) := by
  refine z_enterI (by decide) rfl (Nat.le_of_ble_eq_true rfl) ?_
  intro p e s m args below meth c ls o Q cx hp hl hf hQ
  have hl : lv_has ls 1 [(0, .int (ii a0))] := hl
  unfold fX12_isVariable at hf
  refine lv_iload_n cx.1 cx.2.1 dX12_isVariable_0 rfl (lv_at hl 0 rfl) ?_
  refine z_bipush cx (by decide) dX12_isVariable_1 ?_
  refine z_jn hf (fun j => ∀ (y17_0 : Int) (h : HF) (H : Heap) (locs : List Loc) (ls : Array Slot), rng y17_0 → Hp g B s h H locs → lv_has ls 1 [] → j y17_0 h = some o → W p l e (rmn 0) s m args below meth c H locs 0 0 Q (F0 m 17 ls [.int (ii y17_0)])) ?_ (fun j17 hj17 hf => ?_)
  · intro y17_0 h H locs ls ry17_0 hp hl hf
    rw [hQ]; exact z_zret cx hp dX12_isVariable_17 hf
  refine z_jn hf (fun j => ∀  (h : HF) (H : Heap) (locs : List Loc) (ls : Array Slot), Hp g B s h H locs → lv_has ls 1 [] → j  h = some o → W p l e (rmn 0) s m args below meth c H locs 0 0 Q (F0 m 16 ls [])) ?_ (fun j16 hj16 hf => ?_)
  · intro  h H locs ls  hp hl hf
    refine z_iconst cx dX12_isVariable_16 ?_
    exact hj17 0 h _ _ ls (by decide) hp (lv_sub hl [] rfl) hf
  refine z_icmp_lt cx ra0 (by decide) (tgt := 16) dX12_isVariable_3 (by decide) hf (fun _ hf => ?_) (fun _ hf => ?_)
  · exact hj16  h _ _ ls  hp (lv_sub hl [] rfl) hf
  · refine lv_iload_n cx.1 cx.2.1 dX12_isVariable_6 rfl (lv_at hl 0 rfl) ?_
    refine z_bipush cx (by decide) dX12_isVariable_7 ?_
    refine z_icmp_gt cx ra0 (by decide) (tgt := 16) dX12_isVariable_9 (by decide) hf (fun _ hf => ?_) (fun _ hf => ?_)
    · exact hj16  h _ _ ls  hp (lv_sub hl [] rfl) hf
    · refine z_iconst cx dX12_isVariable_12 ?_
      refine lv_goto (tgt := 17) cx.1 cx.2.1 dX12_isVariable_13 (by decide) ?_
      exact hj17 1 h _ _ ls (by decide) hp (lv_sub hl [] rfl) hf
theorem dX12_isLetter_0 : decode cX12_isLetter 0 = .ok (.iload_n 0, 1) := by decide +kernel
theorem dX12_isLetter_1 : decode cX12_isLetter 1 = .ok (.bipush 97, 2) := by decide +kernel
theorem dX12_isLetter_3 : decode cX12_isLetter 3 = .ok (.if_icmp .lt 13, 3) := by decide +kernel
theorem dX12_isLetter_6 : decode cX12_isLetter 6 = .ok (.iload_n 0, 1) := by decide +kernel
theorem dX12_isLetter_7 : decode cX12_isLetter 7 = .ok (.bipush 100, 2) := by decide +kernel
theorem dX12_isLetter_9 : decode cX12_isLetter 9 = .ok (.if_icmp .gt 7, 3) := by decide +kernel
theorem dX12_isLetter_12 : decode cX12_isLetter 12 = .ok (.iconst 1, 1) := by decide +kernel
theorem dX12_isLetter_13 : decode cX12_isLetter 13 = .ok (.goto 4, 3) := by decide +kernel
theorem dX12_isLetter_16 : decode cX12_isLetter 16 = .ok (.iconst 0, 1) := by decide +kernel
theorem dX12_isLetter_17 : decode cX12_isLetter 17 = .ok (.ireturn, 1) := by decide +kernel
def fX12_isLetter (F : Nat) (a0 : Int) (h : HF) : RO :=
  zjn (fun (y17_0 : Int) (h : HF) => (
    zrz y17_0 h
  )) fun j17 =>
  zjn (fun  (h : HF) => (
    j17 0 h
  )) fun j16 =>
  if a0 < 97 then (
    j16  h
  ) else (
    if 100 < a0 then (
      j16  h
    ) else (
      j17 1 h
    )
  )
set_option maxHeartbeats 4000000 in
set_option maxRecDepth 100000 in
theorem mX12_isLetter (F : Nat) (l : Launch) (g : zG) (B : Nat) (h : HF) (a0 : Int) (ra0 : rng a0) : CTi l g B yX12_isLetter cX12_isLetter 1 (some .boolean) 0 [.int (ii a0)] h (fX12_isLetter F a0 h) := by
  refine z_enterI (by decide) rfl (Nat.le_of_ble_eq_true rfl) ?_
  intro p e s m args below meth c ls o Q cx hp hl hf hQ
  have hl : lv_has ls 1 [(0, .int (ii a0))] := hl
  unfold fX12_isLetter at hf
  refine lv_iload_n cx.1 cx.2.1 dX12_isLetter_0 rfl (lv_at hl 0 rfl) ?_
  refine z_bipush cx (by decide) dX12_isLetter_1 ?_
  refine z_jn hf (fun j => ∀ (y17_0 : Int) (h : HF) (H : Heap) (locs : List Loc) (ls : Array Slot), rng y17_0 → Hp g B s h H locs → lv_has ls 1 [] → j y17_0 h = some o → W p l e (rmn 0) s m args below meth c H locs 0 0 Q (F0 m 17 ls [.int (ii y17_0)])) ?_ (fun j17 hj17 hf => ?_)
  · intro y17_0 h H locs ls ry17_0 hp hl hf
    rw [hQ]; exact z_zret cx hp dX12_isLetter_17 hf
  refine z_jn hf (fun j => ∀  (h : HF) (H : Heap) (locs : List Loc) (ls : Array Slot), Hp g B s h H locs → lv_has ls 1 [] → j  h = some o → W p l e (rmn 0) s m args below meth c H locs 0 0 Q (F0 m 16 ls [])) ?_ (fun j16 hj16 hf => ?_)
  · intro  h H locs ls  hp hl hf
    refine z_iconst cx dX12_isLetter_16 ?_
    exact hj17 0 h _ _ ls (by decide) hp (lv_sub hl [] rfl) hf
  refine z_icmp_lt cx ra0 (by decide) (tgt := 16) dX12_isLetter_3 (by decide) hf (fun _ hf => ?_) (fun _ hf => ?_)
  · exact hj16  h _ _ ls  hp (lv_sub hl [] rfl) hf
  · refine lv_iload_n cx.1 cx.2.1 dX12_isLetter_6 rfl (lv_at hl 0 rfl) ?_
    refine z_bipush cx (by decide) dX12_isLetter_7 ?_
    refine z_icmp_gt cx ra0 (by decide) (tgt := 16) dX12_isLetter_9 (by decide) hf (fun _ hf => ?_) (fun _ hf => ?_)
    · exact hj16  h _ _ ls  hp (lv_sub hl [] rfl) hf
    · refine z_iconst cx dX12_isLetter_12 ?_
      refine lv_goto (tgt := 17) cx.1 cx.2.1 dX12_isLetter_13 (by decide) ?_
      exact hj17 1 h _ _ ls (by decide) hp (lv_sub hl [] rfl) hf
theorem dX12_term_0 : decode cX12_term 0 = .ok (.aload_n 0, 1) := by decide +kernel
theorem dX12_term_1 : decode cX12_term 1 = .ok (.getfield 218, 3) := by decide +kernel
theorem dX12_term_4 : decode cX12_term 4 = .ok (.ifCond .eq 5, 3) := by decide +kernel
theorem dX12_term_7 : decode cX12_term 7 = .ok (.iconst 0, 1) := by decide +kernel
theorem dX12_term_8 : decode cX12_term 8 = .ok (.ireturn, 1) := by decide +kernel
theorem dX12_term_9 : decode cX12_term 9 = .ok (.aload_n 0, 1) := by decide +kernel
theorem dX12_term_10 : decode cX12_term 10 = .ok (.getfield 215, 3) := by decide +kernel
theorem dX12_term_13 : decode cX12_term 13 = .ok (.invokestatic 232, 3) := by decide +kernel
theorem dX12_term_16 : decode cX12_term 16 = .ok (.ifCond .ne 20, 3) := by decide +kernel
theorem dX12_term_19 : decode cX12_term 19 = .ok (.aload_n 0, 1) := by decide +kernel
theorem dX12_term_20 : decode cX12_term 20 = .ok (.getfield 215, 3) := by decide +kernel
theorem dX12_term_23 : decode cX12_term 23 = .ok (.invokestatic 235, 3) := by decide +kernel
theorem dX12_term_26 : decode cX12_term 26 = .ok (.ifCond .ne 10, 3) := by decide +kernel
theorem dX12_term_29 : decode cX12_term 29 = .ok (.aload_n 0, 1) := by decide +kernel
theorem dX12_term_30 : decode cX12_term 30 = .ok (.iconst 1, 1) := by decide +kernel
theorem dX12_term_31 : decode cX12_term 31 = .ok (.invokevirtual 230, 3) := by decide +kernel
theorem dX12_term_34 : decode cX12_term 34 = .ok (.iconst 0, 1) := by decide +kernel
theorem dX12_term_35 : decode cX12_term 35 = .ok (.ireturn, 1) := by decide +kernel
theorem dX12_term_36 : decode cX12_term 36 = .ok (.iload_n 1, 1) := by decide +kernel
theorem dX12_term_37 : decode cX12_term 37 = .ok (.bipush 8, 2) := by decide +kernel
theorem dX12_term_39 : decode cX12_term 39 = .ok (.if_icmp .ne 10, 3) := by decide +kernel
theorem dX12_term_42 : decode cX12_term 42 = .ok (.aload_n 0, 1) := by decide +kernel
theorem dX12_term_43 : decode cX12_term 43 = .ok (.iconst 3, 1) := by decide +kernel
theorem dX12_term_44 : decode cX12_term 44 = .ok (.invokevirtual 230, 3) := by decide +kernel
theorem dX12_term_47 : decode cX12_term 47 = .ok (.iconst 0, 1) := by decide +kernel
theorem dX12_term_48 : decode cX12_term 48 = .ok (.ireturn, 1) := by decide +kernel
theorem dX12_term_49 : decode cX12_term 49 = .ok (.aload_n 0, 1) := by decide +kernel
theorem dX12_term_50 : decode cX12_term 50 = .ok (.getfield 61, 3) := by decide +kernel
theorem dX12_term_53 : decode cX12_term 53 = .ok (.iconst 4, 1) := by decide +kernel
theorem dX12_term_54 : decode cX12_term 54 = .ok (.iaload, 1) := by decide +kernel
theorem dX12_term_55 : decode cX12_term 55 = .ok (.bipush 80, 2) := by decide +kernel
theorem dX12_term_57 : decode cX12_term 57 = .ok (.if_icmp .ne 10, 3) := by decide +kernel
theorem dX12_term_60 : decode cX12_term 60 = .ok (.aload_n 0, 1) := by decide +kernel
theorem dX12_term_61 : decode cX12_term 61 = .ok (.iconst 4, 1) := by decide +kernel
theorem dX12_term_62 : decode cX12_term 62 = .ok (.invokevirtual 230, 3) := by decide +kernel
theorem dX12_term_65 : decode cX12_term 65 = .ok (.iconst 0, 1) := by decide +kernel
theorem dX12_term_66 : decode cX12_term 66 = .ok (.ireturn, 1) := by decide +kernel
theorem dX12_term_67 : decode cX12_term 67 = .ok (.sipush 320, 3) := by decide +kernel
theorem dX12_term_70 : decode cX12_term 70 = .ok (.aload_n 0, 1) := by decide +kernel
theorem dX12_term_71 : decode cX12_term 71 = .ok (.getfield 61, 3) := by decide +kernel
theorem dX12_term_74 : decode cX12_term 74 = .ok (.iconst 4, 1) := by decide +kernel
theorem dX12_term_75 : decode cX12_term 75 = .ok (.iaload, 1) := by decide +kernel
theorem dX12_term_76 : decode cX12_term 76 = .ok (.iadd, 1) := by decide +kernel
theorem dX12_term_77 : decode cX12_term 77 = .ok (.istore_n 2, 1) := by decide +kernel
theorem dX12_term_78 : decode cX12_term 78 = .ok (.aload_n 0, 1) := by decide +kernel
theorem dX12_term_79 : decode cX12_term 79 = .ok (.getfield 58, 3) := by decide +kernel
theorem dX12_term_82 : decode cX12_term 82 = .ok (.aload_n 0, 1) := by decide +kernel
theorem dX12_term_83 : decode cX12_term 83 = .ok (.getfield 61, 3) := by decide +kernel
theorem dX12_term_86 : decode cX12_term 86 = .ok (.iconst 4, 1) := by decide +kernel
theorem dX12_term_87 : decode cX12_term 87 = .ok (.iaload, 1) := by decide +kernel
theorem dX12_term_88 : decode cX12_term 88 = .ok (.aload_n 0, 1) := by decide +kernel
theorem dX12_term_89 : decode cX12_term 89 = .ok (.getfield 212, 3) := by decide +kernel
theorem dX12_term_92 : decode cX12_term 92 = .ok (.iastore, 1) := by decide +kernel
theorem dX12_term_93 : decode cX12_term 93 = .ok (.aload_n 0, 1) := by decide +kernel
theorem dX12_term_94 : decode cX12_term 94 = .ok (.getfield 61, 3) := by decide +kernel
theorem dX12_term_97 : decode cX12_term 97 = .ok (.iconst 4, 1) := by decide +kernel
theorem dX12_term_98 : decode cX12_term 98 = .ok (.dup2, 1) := by decide +kernel
theorem dX12_term_99 : decode cX12_term 99 = .ok (.iaload, 1) := by decide +kernel
theorem dX12_term_100 : decode cX12_term 100 = .ok (.iconst 1, 1) := by decide +kernel
theorem dX12_term_101 : decode cX12_term 101 = .ok (.iadd, 1) := by decide +kernel
theorem dX12_term_102 : decode cX12_term 102 = .ok (.iastore, 1) := by decide +kernel
theorem dX12_term_103 : decode cX12_term 103 = .ok (.aload_n 0, 1) := by decide +kernel
theorem dX12_term_104 : decode cX12_term 104 = .ok (.getfield 215, 3) := by decide +kernel
theorem dX12_term_107 : decode cX12_term 107 = .ok (.invokestatic 232, 3) := by decide +kernel
theorem dX12_term_110 : decode cX12_term 110 = .ok (.istore_n 3, 1) := by decide +kernel
theorem dX12_term_111 : decode cX12_term 111 = .ok (.aload_n 0, 1) := by decide +kernel
theorem dX12_term_112 : decode cX12_term 112 = .ok (.getfield 46, 3) := by decide +kernel
theorem dX12_term_115 : decode cX12_term 115 = .ok (.iload_n 2, 1) := by decide +kernel
theorem dX12_term_116 : decode cX12_term 116 = .ok (.iload_n 3, 1) := by decide +kernel
theorem dX12_term_117 : decode cX12_term 117 = .ok (.ifCond .eq 13, 3) := by decide +kernel
theorem dX12_term_120 : decode cX12_term 120 = .ok (.aload_n 0, 1) := by decide +kernel
theorem dX12_term_121 : decode cX12_term 121 = .ok (.getfield 215, 3) := by decide +kernel
theorem dX12_term_124 : decode cX12_term 124 = .ok (.bipush 120, 2) := by decide +kernel
theorem dX12_term_126 : decode cX12_term 126 = .ok (.isub, 1) := by decide +kernel
theorem dX12_term_127 : decode cX12_term 127 = .ok (.goto 12, 3) := by decide +kernel
theorem dX12_term_130 : decode cX12_term 130 = .ok (.iconst 3, 1) := by decide +kernel
theorem dX12_term_131 : decode cX12_term 131 = .ok (.aload_n 0, 1) := by decide +kernel
theorem dX12_term_132 : decode cX12_term 132 = .ok (.getfield 215, 3) := by decide +kernel
theorem dX12_term_135 : decode cX12_term 135 = .ok (.iadd, 1) := by decide +kernel
theorem dX12_term_136 : decode cX12_term 136 = .ok (.bipush 97, 2) := by decide +kernel
theorem dX12_term_138 : decode cX12_term 138 = .ok (.isub, 1) := by decide +kernel
theorem dX12_term_139 : decode cX12_term 139 = .ok (.iastore, 1) := by decide +kernel
theorem dX12_term_140 : decode cX12_term 140 = .ok (.aload_n 0, 1) := by decide +kernel
theorem dX12_term_141 : decode cX12_term 141 = .ok (.getfield 49, 3) := by decide +kernel
theorem dX12_term_144 : decode cX12_term 144 = .ok (.iload_n 2, 1) := by decide +kernel
theorem dX12_term_145 : decode cX12_term 145 = .ok (.iconst 0, 1) := by decide +kernel
theorem dX12_term_146 : decode cX12_term 146 = .ok (.iastore, 1) := by decide +kernel
theorem dX12_term_147 : decode cX12_term 147 = .ok (.aload_n 0, 1) := by decide +kernel
theorem dX12_term_148 : decode cX12_term 148 = .ok (.invokevirtual 224, 3) := by decide +kernel
theorem dX12_term_151 : decode cX12_term 151 = .ok (.iload_n 3, 1) := by decide +kernel
theorem dX12_term_152 : decode cX12_term 152 = .ok (.ifCond .ne 67, 3) := by decide +kernel
theorem dX12_term_155 : decode cX12_term 155 = .ok (.aload_n 0, 1) := by decide +kernel
theorem dX12_term_156 : decode cX12_term 156 = .ok (.bipush 40, 2) := by decide +kernel
theorem dX12_term_158 : decode cX12_term 158 = .ok (.invokevirtual 227, 3) := by decide +kernel
theorem dX12_term_161 : decode cX12_term 161 = .ok (.ifCond .eq 58, 3) := by decide +kernel
theorem dX12_term_164 : decode cX12_term 164 = .ok (.aload_n 0, 1) := by decide +kernel
theorem dX12_term_165 : decode cX12_term 165 = .ok (.getfield 52, 3) := by decide +kernel
theorem dX12_term_168 : decode cX12_term 168 = .ok (.iload_n 2, 1) := by decide +kernel
theorem dX12_term_169 : decode cX12_term 169 = .ok (.aload_n 0, 1) := by decide +kernel
theorem dX12_term_170 : decode cX12_term 170 = .ok (.iload_n 1, 1) := by decide +kernel
theorem dX12_term_171 : decode cX12_term 171 = .ok (.iconst 1, 1) := by decide +kernel
theorem dX12_term_172 : decode cX12_term 172 = .ok (.iadd, 1) := by decide +kernel
theorem dX12_term_173 : decode cX12_term 173 = .ok (.invokevirtual 238, 3) := by decide +kernel
theorem dX12_term_176 : decode cX12_term 176 = .ok (.iastore, 1) := by decide +kernel
theorem dX12_term_177 : decode cX12_term 177 = .ok (.aload_n 0, 1) := by decide +kernel
theorem dX12_term_178 : decode cX12_term 178 = .ok (.getfield 49, 3) := by decide +kernel
theorem dX12_term_181 : decode cX12_term 181 = .ok (.iload_n 2, 1) := by decide +kernel
theorem dX12_term_182 : decode cX12_term 182 = .ok (.iconst 1, 1) := by decide +kernel
theorem dX12_term_183 : decode cX12_term 183 = .ok (.iastore, 1) := by decide +kernel
theorem dX12_term_184 : decode cX12_term 184 = .ok (.aload_n 0, 1) := by decide +kernel
theorem dX12_term_185 : decode cX12_term 185 = .ok (.bipush 44, 2) := by decide +kernel
theorem dX12_term_187 : decode cX12_term 187 = .ok (.invokevirtual 227, 3) := by decide +kernel
theorem dX12_term_190 : decode cX12_term 190 = .ok (.ifCond .eq 23, 3) := by decide +kernel
theorem dX12_term_193 : decode cX12_term 193 = .ok (.aload_n 0, 1) := by decide +kernel
theorem dX12_term_194 : decode cX12_term 194 = .ok (.getfield 55, 3) := by decide +kernel
theorem dX12_term_197 : decode cX12_term 197 = .ok (.iload_n 2, 1) := by decide +kernel
theorem dX12_term_198 : decode cX12_term 198 = .ok (.aload_n 0, 1) := by decide +kernel
theorem dX12_term_199 : decode cX12_term 199 = .ok (.iload_n 1, 1) := by decide +kernel
theorem dX12_term_200 : decode cX12_term 200 = .ok (.iconst 1, 1) := by decide +kernel
theorem dX12_term_201 : decode cX12_term 201 = .ok (.iadd, 1) := by decide +kernel
theorem dX12_term_202 : decode cX12_term 202 = .ok (.invokevirtual 238, 3) := by decide +kernel
theorem dX12_term_205 : decode cX12_term 205 = .ok (.iastore, 1) := by decide +kernel
theorem dX12_term_206 : decode cX12_term 206 = .ok (.aload_n 0, 1) := by decide +kernel
theorem dX12_term_207 : decode cX12_term 207 = .ok (.getfield 49, 3) := by decide +kernel
theorem dX12_term_210 : decode cX12_term 210 = .ok (.iload_n 2, 1) := by decide +kernel
theorem dX12_term_211 : decode cX12_term 211 = .ok (.iconst 2, 1) := by decide +kernel
theorem dX12_term_212 : decode cX12_term 212 = .ok (.iastore, 1) := by decide +kernel
theorem dX12_term_213 : decode cX12_term 213 = .ok (.aload_n 0, 1) := by decide +kernel
theorem dX12_term_214 : decode cX12_term 214 = .ok (.bipush 41, 2) := by decide +kernel
theorem dX12_term_216 : decode cX12_term 216 = .ok (.invokevirtual 241, 3) := by decide +kernel
theorem dX12_term_219 : decode cX12_term 219 = .ok (.iload_n 2, 1) := by decide +kernel
theorem dX12_term_220 : decode cX12_term 220 = .ok (.sipush 320, 3) := by decide +kernel
theorem dX12_term_223 : decode cX12_term 223 = .ok (.isub, 1) := by decide +kernel
theorem dX12_term_224 : decode cX12_term 224 = .ok (.ireturn, 1) := by decide +kernel
def fX12_term (F : Nat) : Nat → Nat → Int → HF → RO
  | 0, _, _, _ => none
  | D + 1, a0, a1, h =>
    zgf h a0 35 fun x1 =>
    if x1 = 0 then (
      zgf h a0 33 fun x2 =>
      zbd (fX12_isVariable F x2 h) fun r3 h =>
      zjn (fun  (h : HF) => (
        if a1 = 8 then (
          zbd (fX12_wrong F a0 3 h) fun _ h =>
          some (0, h)
        ) else (
          zrd h (a0 + 18) 4 fun x5 =>
          if x5 = 80 then (
            zbd (fX12_wrong F a0 4 h) fun _ h =>
            some (0, h)
          ) else (
            zrd h (a0 + 18) 4 fun x7 =>
            zlet (wr (320 + x7)) fun x8 =>
            zrd h (a0 + 18) 4 fun x9 =>
            zgf h a0 34 fun x10 =>
            zwr h (a0 + 17) x9 x10 fun h =>
            zrd h (a0 + 18) 4 fun x11 =>
            zwr h (a0 + 18) 4 (wr (x11 + 1)) fun h =>
            zgf h a0 33 fun x12 =>
            zbd (fX12_isVariable F x12 h) fun r13 h =>
            zjn (fun (x139_2 : Int) (x139_3 : Int) (y139_0 : Int) (y139_1 : Int) (y139_2 : Nat) (h : HF) => (
              zwr h y139_2 y139_1 y139_0 fun h =>
              zwr h (a0 + 14) x139_2 0 fun h =>
              zbd (fX12_nextSign F a0 h) fun _ h =>
              zjn (fun (x219_2 : Int) (h : HF) => (
                some (wr (x219_2 - 320), h)
              )) fun j219 =>
              if x139_3 = 0 then (
                zbd (fX12_takes F a0 40 h) fun r15 h =>
                if r15 = 0 then (
                  j219 x139_2 h
                ) else (
                  zbd ((fX12_term F D) a0 (wr (a1 + 1)) h) fun r16 h =>
                  zwr h (a0 + 15) x139_2 r16 fun h =>
                  zwr h (a0 + 14) x139_2 1 fun h =>
                  zbd (fX12_takes F a0 44 h) fun r17 h =>
                  zjn (fun (x213_2 : Int) (h : HF) => (
                    zbd (fX12_must F a0 41 h) fun _ h =>
                    j219 x213_2 h
                  )) fun j213 =>
                  if r17 = 0 then (
                    j213 x139_2 h
                  ) else (
                    zbd ((fX12_term F D) a0 (wr (a1 + 1)) h) fun r19 h =>
                    zwr h (a0 + 16) x139_2 r19 fun h =>
                    zwr h (a0 + 14) x139_2 2 fun h =>
                    j213 x139_2 h
                  )
                )
              ) else (
                j219 x139_2 h
              )
            )) fun j139 =>
            if r13 = 0 then (
              zgf h a0 33 fun x20 =>
              j139 x8 r13 (wr ((wr (3 + x20)) - 97)) x8 (a0 + 13) h
            ) else (
              zgf h a0 33 fun x21 =>
              j139 x8 r13 (wr (x21 - 120)) x8 (a0 + 13) h
            )
          )
        )
      )) fun j36 =>
      if r3 = 0 then (
        zgf h a0 33 fun x22 =>
        zbd (fX12_isLetter F x22 h) fun r23 h =>
        if r23 = 0 then (
          zbd (fX12_wrong F a0 1 h) fun _ h =>
          some (0, h)
        ) else (
          j36  h
        )
      ) else (
        j36  h
      )
    ) else (
      some (0, h)
    )
set_option maxHeartbeats 4000000 in
set_option maxRecDepth 100000 in
theorem mX12_term (F : Nat) (l : Launch) (g : zG) (B : Nat) : ∀ (D : Nat) (h : HF) (a0 : Nat) (a1 : Int) (ra0 : kt a0 = 15) (ra1 : rng a1), CTi l g B yX12_term cX12_term 4 (some .int) (3 + 1 * D) [.ref (B + a0), .int (ii a1)] h (fX12_term F D a0 a1 h) := by
  intro D
  induction D with
  | zero =>
    intro h a0 a1 ra0 ra1 o hx
    cases hx
  | succ D ihD =>
    intro h a0 a1 ra0 ra1
    refine z_enterI (by decide) rfl (Nat.le_of_ble_eq_true rfl) ?_
    intro p e s m args below meth c ls o Q cx hp hl hf hQ
    have hl : lv_has ls 4 [(0, .ref (B + a0)), (1, .int (ii a1))] := hl
    rw [fX12_term] at hf
    refine lv_aload_n cx.1 cx.2.1 dX12_term_0 rfl (lv_at hl 0 rfl) ?_
    refine z_geti cx hp (T := TX12) 12 35 rfl zin_12 (by decide) (by decide) ra0 rfl fl_X12_218 dX12_term_1 hf (fun x1 rx1 hf => ?_)
    refine z_if_eq cx rx1 (tgt := 9) dX12_term_4 (by decide) hf (fun _ hf => ?_) (fun _ hf => ?_)
    · refine lv_aload_n cx.1 cx.2.1 dX12_term_9 rfl (lv_at hl 0 rfl) ?_
      refine z_geti cx hp (T := TX12) 12 33 rfl zin_12 (by decide) (by decide) ra0 rfl fl_X12_215 dX12_term_10 hf (fun x2 rx2 hf => ?_)
      refine z_ci cx hp (fun o' hx => zrunS (n := (3 + 1 * (D + 1))) (As := [.int (ii x2)]) (rest := []) cx hp (mX12_isVariable F l g B h x2 rx2 o' hx) sw_X12_isVariable ml_X12_232 (by omega) rfl hl.1 rfl (Nat.le_of_ble_eq_true rfl) dX12_term_13) hf (fun r3 h H locs rr3 hp hf => ?_)
      refine z_jn hf (fun j => ∀  (h : HF) (H : Heap) (locs : List Loc) (ls : Array Slot), Hp g B s h H locs → lv_has ls 4 [(0, .ref (B + a0)), (1, .int (ii a1))] → j  h = some o → W p l e (rmn (3 + 1 * (D + 1))) s m args below meth c H locs 0 0 Q (F0 m 36 ls [])) ?_ (fun j36 hj36 hf => ?_)
      · intro  h H locs ls  hp hl hf
        refine lv_iload_n cx.1 cx.2.1 dX12_term_36 rfl (lv_at hl 1 rfl) ?_
        refine z_bipush cx (by decide) dX12_term_37 ?_
        refine z_icmp_ne cx ra1 (by decide) (tgt := 49) dX12_term_39 (by decide) hf (fun _ hf => ?_) (fun _ hf => ?_)
        · refine lv_aload_n cx.1 cx.2.1 dX12_term_42 rfl (lv_at hl 0 rfl) ?_
          refine z_iconst cx dX12_term_43 ?_
          refine z_cv cx hp (fun o' hx => zrunV (n := (3 + 1 * (D + 1))) (As := [.int (ii 3)]) (rest := []) cx hp (mX12_wrong F l g B h a0 3 ra0 (by decide) o' hx) 12 ra0 (by decide) rfl vw_X12_wrong ml_X12_230 (by omega) rfl hl.1 rfl (Nat.le_of_ble_eq_true rfl) dX12_term_44) hf (fun _ h H locs hp hf => ?_)
          refine z_iconst cx dX12_term_47 ?_
          rw [hQ]; exact z_iret cx hp (by decide) dX12_term_48 hf
        · refine lv_aload_n cx.1 cx.2.1 dX12_term_49 rfl (lv_at hl 0 rfl) ?_
          refine z_gets cx hp (T := TX12) 12 24 (a0 + 18) rfl zin_12 (by decide) (by decide) ra0 rfl fl_X12_61 dX12_term_50 ?_
          refine z_iconst cx dX12_term_53 ?_
          refine z_iald cx hp (zs_12_24 a0 (kt_lt ra0 (by decide)) ra0) (by decide) dX12_term_54 hf (fun x5 rx5 hf => ?_)
          refine z_bipush cx (by decide) dX12_term_55 ?_
          refine z_icmp_ne cx rx5 (by decide) (tgt := 67) dX12_term_57 (by decide) hf (fun _ hf => ?_) (fun _ hf => ?_)
          · refine lv_aload_n cx.1 cx.2.1 dX12_term_60 rfl (lv_at hl 0 rfl) ?_
            refine z_iconst cx dX12_term_61 ?_
            refine z_cv cx hp (fun o' hx => zrunV (n := (3 + 1 * (D + 1))) (As := [.int (ii 4)]) (rest := []) cx hp (mX12_wrong F l g B h a0 4 ra0 (by decide) o' hx) 12 ra0 (by decide) rfl vw_X12_wrong ml_X12_230 (by omega) rfl hl.1 rfl (Nat.le_of_ble_eq_true rfl) dX12_term_62) hf (fun _ h H locs hp hf => ?_)
            refine z_iconst cx dX12_term_65 ?_
            rw [hQ]; exact z_iret cx hp (by decide) dX12_term_66 hf
          · refine z_sipush cx (by decide) dX12_term_67 ?_
            refine lv_aload_n cx.1 cx.2.1 dX12_term_70 rfl (lv_at hl 0 rfl) ?_
            refine z_gets cx hp (T := TX12) 12 24 (a0 + 18) rfl zin_12 (by decide) (by decide) ra0 rfl fl_X12_61 dX12_term_71 ?_
            refine z_iconst cx dX12_term_74 ?_
            refine z_iald cx hp (zs_12_24 a0 (kt_lt ra0 (by decide)) ra0) (by decide) dX12_term_75 hf (fun x7 rx7 hf => ?_)
            refine z_iadd cx dX12_term_76 ?_
            refine z_let (rng_wr _) hf (fun x8 rx8 hf => ?_)
            refine lv_istore_n (lv' := [(2, .int (ii x8)), (0, .ref (B + a0)), (1, .int (ii a1))]) cx.1 cx.2.1 dX12_term_77 rfl hl (by decide) rfl (fun ls hl => ?_)
            refine lv_aload_n cx.1 cx.2.1 dX12_term_78 rfl (lv_at hl 1 rfl) ?_
            refine z_gets cx hp (T := TX12) 12 23 (a0 + 17) rfl zin_12 (by decide) (by decide) ra0 rfl fl_X12_58 dX12_term_79 ?_
            refine lv_aload_n cx.1 cx.2.1 dX12_term_82 rfl (lv_at hl 1 rfl) ?_
            refine z_gets cx hp (T := TX12) 12 24 (a0 + 18) rfl zin_12 (by decide) (by decide) ra0 rfl fl_X12_61 dX12_term_83 ?_
            refine z_iconst cx dX12_term_86 ?_
            refine z_iald cx hp (zs_12_24 a0 (kt_lt ra0 (by decide)) ra0) (by decide) dX12_term_87 hf (fun x9 rx9 hf => ?_)
            refine lv_aload_n cx.1 cx.2.1 dX12_term_88 rfl (lv_at hl 1 rfl) ?_
            refine z_geti cx hp (T := TX12) 12 34 rfl zin_12 (by decide) (by decide) ra0 rfl fl_X12_212 dX12_term_89 hf (fun x10 rx10 hf => ?_)
            refine z_iast cx hp (zs_12_23 a0 (kt_lt ra0 (by decide)) ra0) rx9 rx10 dX12_term_92 hf (fun h H locs hp hf => ?_)
            refine lv_aload_n cx.1 cx.2.1 dX12_term_93 rfl (lv_at hl 1 rfl) ?_
            refine z_gets cx hp (T := TX12) 12 24 (a0 + 18) rfl zin_12 (by decide) (by decide) ra0 rfl fl_X12_61 dX12_term_94 ?_
            refine z_iconst cx dX12_term_97 ?_
            refine lv_dup2_11 cx.1 cx.2.1 dX12_term_98 rfl rfl ?_
            refine z_iald cx hp (zs_12_24 a0 (kt_lt ra0 (by decide)) ra0) (by decide) dX12_term_99 hf (fun x11 rx11 hf => ?_)
            refine z_iconst cx dX12_term_100 ?_
            refine z_iadd cx dX12_term_101 ?_
            refine z_iast cx hp (zs_12_24 a0 (kt_lt ra0 (by decide)) ra0) (by decide) (rng_wr _) dX12_term_102 hf (fun h H locs hp hf => ?_)
            refine lv_aload_n cx.1 cx.2.1 dX12_term_103 rfl (lv_at hl 1 rfl) ?_
            refine z_geti cx hp (T := TX12) 12 33 rfl zin_12 (by decide) (by decide) ra0 rfl fl_X12_215 dX12_term_104 hf (fun x12 rx12 hf => ?_)
            refine z_ci cx hp (fun o' hx => zrunS (n := (3 + 1 * (D + 1))) (As := [.int (ii x12)]) (rest := []) cx hp (mX12_isVariable F l g B h x12 rx12 o' hx) sw_X12_isVariable ml_X12_232 (by omega) rfl hl.1 rfl (Nat.le_of_ble_eq_true rfl) dX12_term_107) hf (fun r13 h H locs rr13 hp hf => ?_)
            refine lv_istore_n (lv' := [(3, .int (ii r13)), (2, .int (ii x8)), (0, .ref (B + a0)), (1, .int (ii a1))]) cx.1 cx.2.1 dX12_term_110 rfl hl (by decide) rfl (fun ls hl => ?_)
            refine lv_aload_n cx.1 cx.2.1 dX12_term_111 rfl (lv_at hl 2 rfl) ?_
            refine z_gets cx hp (T := TX12) 12 19 (a0 + 13) rfl zin_12 (by decide) (by decide) ra0 rfl fl_X12_46 dX12_term_112 ?_
            refine lv_iload_n cx.1 cx.2.1 dX12_term_115 rfl (lv_at hl 1 rfl) ?_
            refine lv_iload_n cx.1 cx.2.1 dX12_term_116 rfl (lv_at hl 0 rfl) ?_
            refine z_jn hf (fun j => ∀ (x139_2 : Int) (x139_3 : Int) (y139_0 : Int) (y139_1 : Int) (y139_2 : Nat) (h : HF) (H : Heap) (locs : List Loc) (ls : Array Slot), rng x139_2 → rng x139_3 → rng y139_0 → rng y139_1 → kt y139_2 = 0 → Hp g B s h H locs → lv_has ls 4 [(0, .ref (B + a0)), (1, .int (ii a1)), (2, .int (ii x139_2)), (3, .int (ii x139_3))] → j x139_2 x139_3 y139_0 y139_1 y139_2 h = some o → W p l e (rmn (3 + 1 * (D + 1))) s m args below meth c H locs 0 0 Q (F0 m 139 ls [.int (ii y139_0), .int (ii y139_1), .ref (B + y139_2)])) ?_ (fun j139 hj139 hf => ?_)
            · intro x139_2 x139_3 y139_0 y139_1 y139_2 h H locs ls rx139_2 rx139_3 ry139_0 ry139_1 ry139_2 hp hl hf
              refine z_iast cx hp ry139_2 ry139_1 ry139_0 dX12_term_139 hf (fun h H locs hp hf => ?_)
              refine lv_aload_n cx.1 cx.2.1 dX12_term_140 rfl (lv_at hl 0 rfl) ?_
              refine z_gets cx hp (T := TX12) 12 20 (a0 + 14) rfl zin_12 (by decide) (by decide) ra0 rfl fl_X12_49 dX12_term_141 ?_
              refine lv_iload_n cx.1 cx.2.1 dX12_term_144 rfl (lv_at hl 2 rfl) ?_
              refine z_iconst cx dX12_term_145 ?_
              refine z_iast cx hp (zs_12_20 a0 (kt_lt ra0 (by decide)) ra0) rx139_2 (by decide) dX12_term_146 hf (fun h H locs hp hf => ?_)
              refine lv_aload_n cx.1 cx.2.1 dX12_term_147 rfl (lv_at hl 0 rfl) ?_
              refine z_cv cx hp (fun o' hx => zrunV (n := (3 + 1 * (D + 1))) (As := []) (rest := []) cx hp (mX12_nextSign F l g B h a0 ra0 o' hx) 12 ra0 (by decide) rfl vw_X12_nextSign ml_X12_224 (by omega) rfl hl.1 rfl (Nat.le_of_ble_eq_true rfl) dX12_term_148) hf (fun _ h H locs hp hf => ?_)
              refine lv_iload_n cx.1 cx.2.1 dX12_term_151 rfl (lv_at hl 3 rfl) ?_
              refine z_jn hf (fun j => ∀ (x219_2 : Int) (h : HF) (H : Heap) (locs : List Loc) (ls : Array Slot), rng x219_2 → Hp g B s h H locs → lv_has ls 4 [(2, .int (ii x219_2))] → j x219_2 h = some o → W p l e (rmn (3 + 1 * (D + 1))) s m args below meth c H locs 0 0 Q (F0 m 219 ls [])) ?_ (fun j219 hj219 hf => ?_)
              · intro x219_2 h H locs ls rx219_2 hp hl hf
                refine lv_iload_n cx.1 cx.2.1 dX12_term_219 rfl (lv_at hl 0 rfl) ?_
                refine z_sipush cx (by decide) dX12_term_220 ?_
                refine z_isub cx dX12_term_223 ?_
                rw [hQ]; exact z_iret cx hp (rng_wr _) dX12_term_224 hf
              refine z_if_ne cx rx139_3 (tgt := 219) dX12_term_152 (by decide) hf (fun _ hf => ?_) (fun _ hf => ?_)
              · refine lv_aload_n cx.1 cx.2.1 dX12_term_155 rfl (lv_at hl 0 rfl) ?_
                refine z_bipush cx (by decide) dX12_term_156 ?_
                refine z_ci cx hp (fun o' hx => zrunV (n := (3 + 1 * (D + 1))) (As := [.int (ii 40)]) (rest := []) cx hp (mX12_takes F l g B h a0 40 ra0 (by decide) o' hx) 12 ra0 (by decide) rfl vw_X12_takes ml_X12_227 (by omega) rfl hl.1 rfl (Nat.le_of_ble_eq_true rfl) dX12_term_158) hf (fun r15 h H locs rr15 hp hf => ?_)
                refine z_if_eq cx rr15 (tgt := 219) dX12_term_161 (by decide) hf (fun _ hf => ?_) (fun _ hf => ?_)
                · exact hj219 x139_2 h _ _ ls rx139_2 hp (lv_sub hl [2] rfl) hf
                · refine lv_aload_n cx.1 cx.2.1 dX12_term_164 rfl (lv_at hl 0 rfl) ?_
                  refine z_gets cx hp (T := TX12) 12 21 (a0 + 15) rfl zin_12 (by decide) (by decide) ra0 rfl fl_X12_52 dX12_term_165 ?_
                  refine lv_iload_n cx.1 cx.2.1 dX12_term_168 rfl (lv_at hl 2 rfl) ?_
                  refine lv_aload_n cx.1 cx.2.1 dX12_term_169 rfl (lv_at hl 0 rfl) ?_
                  refine lv_iload_n cx.1 cx.2.1 dX12_term_170 rfl (lv_at hl 1 rfl) ?_
                  refine z_iconst cx dX12_term_171 ?_
                  refine z_iadd cx dX12_term_172 ?_
                  refine z_ci cx hp (fun o' hx => zrunV (n := (3 + 1 * (D + 1))) (As := [.int (ii (wr (a1 + 1)))]) (rest := [.int (ii x139_2), .ref (B + (a0 + 15))]) cx hp (ihD h a0 (wr (a1 + 1)) ra0 (rng_wr _) o' hx) 12 ra0 (by decide) rfl vw_X12_term ml_X12_238 (by omega) rfl hl.1 rfl (Nat.le_of_ble_eq_true rfl) dX12_term_173) hf (fun r16 h H locs rr16 hp hf => ?_)
                  refine z_iast cx hp (zs_12_21 a0 (kt_lt ra0 (by decide)) ra0) rx139_2 rr16 dX12_term_176 hf (fun h H locs hp hf => ?_)
                  refine lv_aload_n cx.1 cx.2.1 dX12_term_177 rfl (lv_at hl 0 rfl) ?_
                  refine z_gets cx hp (T := TX12) 12 20 (a0 + 14) rfl zin_12 (by decide) (by decide) ra0 rfl fl_X12_49 dX12_term_178 ?_
                  refine lv_iload_n cx.1 cx.2.1 dX12_term_181 rfl (lv_at hl 2 rfl) ?_
                  refine z_iconst cx dX12_term_182 ?_
                  refine z_iast cx hp (zs_12_20 a0 (kt_lt ra0 (by decide)) ra0) rx139_2 (by decide) dX12_term_183 hf (fun h H locs hp hf => ?_)
                  refine lv_aload_n cx.1 cx.2.1 dX12_term_184 rfl (lv_at hl 0 rfl) ?_
                  refine z_bipush cx (by decide) dX12_term_185 ?_
                  refine z_ci cx hp (fun o' hx => zrunV (n := (3 + 1 * (D + 1))) (As := [.int (ii 44)]) (rest := []) cx hp (mX12_takes F l g B h a0 44 ra0 (by decide) o' hx) 12 ra0 (by decide) rfl vw_X12_takes ml_X12_227 (by omega) rfl hl.1 rfl (Nat.le_of_ble_eq_true rfl) dX12_term_187) hf (fun r17 h H locs rr17 hp hf => ?_)
                  refine z_jn hf (fun j => ∀ (x213_2 : Int) (h : HF) (H : Heap) (locs : List Loc) (ls : Array Slot), rng x213_2 → Hp g B s h H locs → lv_has ls 4 [(0, .ref (B + a0)), (2, .int (ii x213_2))] → j x213_2 h = some o → W p l e (rmn (3 + 1 * (D + 1))) s m args below meth c H locs 0 0 Q (F0 m 213 ls [])) ?_ (fun j213 hj213 hf => ?_)
                  · intro x213_2 h H locs ls rx213_2 hp hl hf
                    refine lv_aload_n cx.1 cx.2.1 dX12_term_213 rfl (lv_at hl 0 rfl) ?_
                    refine z_bipush cx (by decide) dX12_term_214 ?_
                    refine z_cv cx hp (fun o' hx => zrunV (n := (3 + 1 * (D + 1))) (As := [.int (ii 41)]) (rest := []) cx hp (mX12_must F l g B h a0 41 ra0 (by decide) o' hx) 12 ra0 (by decide) rfl vw_X12_must ml_X12_241 (by omega) rfl hl.1 rfl (Nat.le_of_ble_eq_true rfl) dX12_term_216) hf (fun _ h H locs hp hf => ?_)
                    exact hj219 x213_2 h _ _ ls rx213_2 hp (lv_sub hl [1] rfl) hf
                  refine z_if_eq cx rr17 (tgt := 213) dX12_term_190 (by decide) hf (fun _ hf => ?_) (fun _ hf => ?_)
                  · exact hj213 x139_2 h _ _ ls rx139_2 hp (lv_sub hl [0, 2] rfl) hf
                  · refine lv_aload_n cx.1 cx.2.1 dX12_term_193 rfl (lv_at hl 0 rfl) ?_
                    refine z_gets cx hp (T := TX12) 12 22 (a0 + 16) rfl zin_12 (by decide) (by decide) ra0 rfl fl_X12_55 dX12_term_194 ?_
                    refine lv_iload_n cx.1 cx.2.1 dX12_term_197 rfl (lv_at hl 2 rfl) ?_
                    refine lv_aload_n cx.1 cx.2.1 dX12_term_198 rfl (lv_at hl 0 rfl) ?_
                    refine lv_iload_n cx.1 cx.2.1 dX12_term_199 rfl (lv_at hl 1 rfl) ?_
                    refine z_iconst cx dX12_term_200 ?_
                    refine z_iadd cx dX12_term_201 ?_
                    refine z_ci cx hp (fun o' hx => zrunV (n := (3 + 1 * (D + 1))) (As := [.int (ii (wr (a1 + 1)))]) (rest := [.int (ii x139_2), .ref (B + (a0 + 16))]) cx hp (ihD h a0 (wr (a1 + 1)) ra0 (rng_wr _) o' hx) 12 ra0 (by decide) rfl vw_X12_term ml_X12_238 (by omega) rfl hl.1 rfl (Nat.le_of_ble_eq_true rfl) dX12_term_202) hf (fun r19 h H locs rr19 hp hf => ?_)
                    refine z_iast cx hp (zs_12_22 a0 (kt_lt ra0 (by decide)) ra0) rx139_2 rr19 dX12_term_205 hf (fun h H locs hp hf => ?_)
                    refine lv_aload_n cx.1 cx.2.1 dX12_term_206 rfl (lv_at hl 0 rfl) ?_
                    refine z_gets cx hp (T := TX12) 12 20 (a0 + 14) rfl zin_12 (by decide) (by decide) ra0 rfl fl_X12_49 dX12_term_207 ?_
                    refine lv_iload_n cx.1 cx.2.1 dX12_term_210 rfl (lv_at hl 2 rfl) ?_
                    refine z_iconst cx dX12_term_211 ?_
                    refine z_iast cx hp (zs_12_20 a0 (kt_lt ra0 (by decide)) ra0) rx139_2 (by decide) dX12_term_212 hf (fun h H locs hp hf => ?_)
                    exact hj213 x139_2 h _ _ ls rx139_2 hp (lv_sub hl [0, 2] rfl) hf
              · exact hj219 x139_2 h _ _ ls rx139_2 hp (lv_sub hl [2] rfl) hf
            refine z_if_eq cx rr13 (tgt := 130) dX12_term_117 (by decide) hf (fun _ hf => ?_) (fun _ hf => ?_)
            · refine z_iconst cx dX12_term_130 ?_
              refine lv_aload_n cx.1 cx.2.1 dX12_term_131 rfl (lv_at hl 2 rfl) ?_
              refine z_geti cx hp (T := TX12) 12 33 rfl zin_12 (by decide) (by decide) ra0 rfl fl_X12_215 dX12_term_132 hf (fun x20 rx20 hf => ?_)
              refine z_iadd cx dX12_term_135 ?_
              refine z_bipush cx (by decide) dX12_term_136 ?_
              refine z_isub cx dX12_term_138 ?_
              exact hj139 x8 r13 (wr ((wr (3 + x20)) - 97)) x8 (a0 + 13) h _ _ ls rx8 rr13 (rng_wr _) rx8 (zs_12_19 a0 (kt_lt ra0 (by decide)) ra0) hp (lv_sub hl [2, 3, 1, 0] rfl) hf
            · refine lv_aload_n cx.1 cx.2.1 dX12_term_120 rfl (lv_at hl 2 rfl) ?_
              refine z_geti cx hp (T := TX12) 12 33 rfl zin_12 (by decide) (by decide) ra0 rfl fl_X12_215 dX12_term_121 hf (fun x21 rx21 hf => ?_)
              refine z_bipush cx (by decide) dX12_term_124 ?_
              refine z_isub cx dX12_term_126 ?_
              refine lv_goto (tgt := 139) cx.1 cx.2.1 dX12_term_127 (by decide) ?_
              exact hj139 x8 r13 (wr (x21 - 120)) x8 (a0 + 13) h _ _ ls rx8 rr13 (rng_wr _) rx8 (zs_12_19 a0 (kt_lt ra0 (by decide)) ra0) hp (lv_sub hl [2, 3, 1, 0] rfl) hf
      refine z_if_ne cx rr3 (tgt := 36) dX12_term_16 (by decide) hf (fun _ hf => ?_) (fun _ hf => ?_)
      · refine lv_aload_n cx.1 cx.2.1 dX12_term_19 rfl (lv_at hl 0 rfl) ?_
        refine z_geti cx hp (T := TX12) 12 33 rfl zin_12 (by decide) (by decide) ra0 rfl fl_X12_215 dX12_term_20 hf (fun x22 rx22 hf => ?_)
        refine z_ci cx hp (fun o' hx => zrunS (n := (3 + 1 * (D + 1))) (As := [.int (ii x22)]) (rest := []) cx hp (mX12_isLetter F l g B h x22 rx22 o' hx) sw_X12_isLetter ml_X12_235 (by omega) rfl hl.1 rfl (Nat.le_of_ble_eq_true rfl) dX12_term_23) hf (fun r23 h H locs rr23 hp hf => ?_)
        refine z_if_ne cx rr23 (tgt := 36) dX12_term_26 (by decide) hf (fun _ hf => ?_) (fun _ hf => ?_)
        · refine lv_aload_n cx.1 cx.2.1 dX12_term_29 rfl (lv_at hl 0 rfl) ?_
          refine z_iconst cx dX12_term_30 ?_
          refine z_cv cx hp (fun o' hx => zrunV (n := (3 + 1 * (D + 1))) (As := [.int (ii 1)]) (rest := []) cx hp (mX12_wrong F l g B h a0 1 ra0 (by decide) o' hx) 12 ra0 (by decide) rfl vw_X12_wrong ml_X12_230 (by omega) rfl hl.1 rfl (Nat.le_of_ble_eq_true rfl) dX12_term_31) hf (fun _ h H locs hp hf => ?_)
          refine z_iconst cx dX12_term_34 ?_
          rw [hQ]; exact z_iret cx hp (by decide) dX12_term_35 hf
        · exact hj36  h _ _ ls  hp (lv_sub hl [0, 1] rfl) hf
      · exact hj36  h _ _ ls  hp (lv_sub hl [0, 1] rfl) hf
    · refine z_iconst cx dX12_term_7 ?_
      rw [hQ]; exact z_iret cx hp (by decide) dX12_term_8 hf
theorem dX12_same_0 : decode cX12_same 0 = .ok (.sipush 160, 3) := by decide +kernel
theorem dX12_same_3 : decode cX12_same 3 = .ok (.aload_n 0, 1) := by decide +kernel
theorem dX12_same_4 : decode cX12_same 4 = .ok (.getfield 70, 3) := by decide +kernel
theorem dX12_same_7 : decode cX12_same 7 = .ok (.iconst 4, 1) := by decide +kernel
theorem dX12_same_8 : decode cX12_same 8 = .ok (.iaload, 1) := by decide +kernel
theorem dX12_same_9 : decode cX12_same 9 = .ok (.iadd, 1) := by decide +kernel
theorem dX12_same_10 : decode cX12_same 10 = .ok (.istore_n 1, 1) := by decide +kernel
theorem dX12_same_11 : decode cX12_same 11 = .ok (.aload_n 0, 1) := by decide +kernel
theorem dX12_same_12 : decode cX12_same 12 = .ok (.iconst 0, 1) := by decide +kernel
theorem dX12_same_13 : decode cX12_same 13 = .ok (.invokevirtual 238, 3) := by decide +kernel
theorem dX12_same_16 : decode cX12_same 16 = .ok (.istore_n 2, 1) := by decide +kernel
theorem dX12_same_17 : decode cX12_same 17 = .ok (.aload_n 0, 1) := by decide +kernel
theorem dX12_same_18 : decode cX12_same 18 = .ok (.bipush 61, 2) := by decide +kernel
theorem dX12_same_20 : decode cX12_same 20 = .ok (.invokevirtual 241, 3) := by decide +kernel
theorem dX12_same_23 : decode cX12_same 23 = .ok (.aload_n 0, 1) := by decide +kernel
theorem dX12_same_24 : decode cX12_same 24 = .ok (.iconst 0, 1) := by decide +kernel
theorem dX12_same_25 : decode cX12_same 25 = .ok (.invokevirtual 238, 3) := by decide +kernel
theorem dX12_same_28 : decode cX12_same 28 = .ok (.istore_n 3, 1) := by decide +kernel
theorem dX12_same_29 : decode cX12_same 29 = .ok (.aload_n 0, 1) := by decide +kernel
theorem dX12_same_30 : decode cX12_same 30 = .ok (.getfield 218, 3) := by decide +kernel
theorem dX12_same_33 : decode cX12_same 33 = .ok (.ifCond .ne 27, 3) := by decide +kernel
theorem dX12_same_36 : decode cX12_same 36 = .ok (.aload_n 0, 1) := by decide +kernel
theorem dX12_same_37 : decode cX12_same 37 = .ok (.getfield 64, 3) := by decide +kernel
theorem dX12_same_40 : decode cX12_same 40 = .ok (.iload_n 1, 1) := by decide +kernel
theorem dX12_same_41 : decode cX12_same 41 = .ok (.iload_n 2, 1) := by decide +kernel
theorem dX12_same_42 : decode cX12_same 42 = .ok (.iastore, 1) := by decide +kernel
theorem dX12_same_43 : decode cX12_same 43 = .ok (.aload_n 0, 1) := by decide +kernel
theorem dX12_same_44 : decode cX12_same 44 = .ok (.getfield 67, 3) := by decide +kernel
theorem dX12_same_47 : decode cX12_same 47 = .ok (.iload_n 1, 1) := by decide +kernel
theorem dX12_same_48 : decode cX12_same 48 = .ok (.iload_n 3, 1) := by decide +kernel
theorem dX12_same_49 : decode cX12_same 49 = .ok (.iastore, 1) := by decide +kernel
theorem dX12_same_50 : decode cX12_same 50 = .ok (.aload_n 0, 1) := by decide +kernel
theorem dX12_same_51 : decode cX12_same 51 = .ok (.getfield 70, 3) := by decide +kernel
theorem dX12_same_54 : decode cX12_same 54 = .ok (.iconst 4, 1) := by decide +kernel
theorem dX12_same_55 : decode cX12_same 55 = .ok (.dup2, 1) := by decide +kernel
theorem dX12_same_56 : decode cX12_same 56 = .ok (.iaload, 1) := by decide +kernel
theorem dX12_same_57 : decode cX12_same 57 = .ok (.iconst 1, 1) := by decide +kernel
theorem dX12_same_58 : decode cX12_same 58 = .ok (.iadd, 1) := by decide +kernel
theorem dX12_same_59 : decode cX12_same 59 = .ok (.iastore, 1) := by decide +kernel
theorem dX12_same_60 : decode cX12_same 60 = .ok (.return_, 1) := by decide +kernel
def fX12_same (F : Nat) (a0 : Nat) (h : HF) : RO :=
  zrd h (a0 + 21) 4 fun x1 =>
  zlet (wr (160 + x1)) fun x2 =>
  zbd (fX12_term F 10 a0 0 h) fun r3 h =>
  zbd (fX12_must F a0 61 h) fun _ h =>
  zbd (fX12_term F 10 a0 0 h) fun r5 h =>
  zgf h a0 35 fun x6 =>
  zjn (fun  (h : HF) => (
    some (0, h)
  )) fun j60 =>
  if x6 = 0 then (
    zwr h (a0 + 19) x2 r3 fun h =>
    zwr h (a0 + 20) x2 r5 fun h =>
    zrd h (a0 + 21) 4 fun x7 =>
    zwr h (a0 + 21) 4 (wr (x7 + 1)) fun h =>
    j60  h
  ) else (
    j60  h
  )
set_option maxHeartbeats 4000000 in
set_option maxRecDepth 100000 in
theorem mX12_same (F : Nat) (l : Launch) (g : zG) (B : Nat) (h : HF) (a0 : Nat) (ra0 : kt a0 = 15) : CTv l g B yX12_same cX12_same 4 14 [.ref (B + a0)] h (fX12_same F a0 h) := by
  refine z_enterV (by decide) rfl (Nat.le_of_ble_eq_true rfl) ?_
  intro p e s m args below meth c ls o Q cx hp hl hf hQ
  have hl : lv_has ls 4 [(0, .ref (B + a0))] := hl
  unfold fX12_same at hf
  refine z_sipush cx (by decide) dX12_same_0 ?_
  refine lv_aload_n cx.1 cx.2.1 dX12_same_3 rfl (lv_at hl 0 rfl) ?_
  refine z_gets cx hp (T := TX12) 12 27 (a0 + 21) rfl zin_12 (by decide) (by decide) ra0 rfl fl_X12_70 dX12_same_4 ?_
  refine z_iconst cx dX12_same_7 ?_
  refine z_iald cx hp (zs_12_27 a0 (kt_lt ra0 (by decide)) ra0) (by decide) dX12_same_8 hf (fun x1 rx1 hf => ?_)
  refine z_iadd cx dX12_same_9 ?_
  refine z_let (rng_wr _) hf (fun x2 rx2 hf => ?_)
  refine lv_istore_n (lv' := [(1, .int (ii x2)), (0, .ref (B + a0))]) cx.1 cx.2.1 dX12_same_10 rfl hl (by decide) rfl (fun ls hl => ?_)
  refine lv_aload_n cx.1 cx.2.1 dX12_same_11 rfl (lv_at hl 1 rfl) ?_
  refine z_iconst cx dX12_same_12 ?_
  refine z_ci cx hp (fun o' hx => zrunV (n := 14) (As := [.int (ii 0)]) (rest := []) cx hp (mX12_term F l g B 10 h a0 0 ra0 (by decide) o' hx) 12 ra0 (by decide) rfl vw_X12_term ml_X12_238 (by decide) rfl hl.1 rfl (Nat.le_of_ble_eq_true rfl) dX12_same_13) hf (fun r3 h H locs rr3 hp hf => ?_)
  refine lv_istore_n (lv' := [(2, .int (ii r3)), (1, .int (ii x2)), (0, .ref (B + a0))]) cx.1 cx.2.1 dX12_same_16 rfl hl (by decide) rfl (fun ls hl => ?_)
  refine lv_aload_n cx.1 cx.2.1 dX12_same_17 rfl (lv_at hl 2 rfl) ?_
  refine z_bipush cx (by decide) dX12_same_18 ?_
  refine z_cv cx hp (fun o' hx => zrunV (n := 14) (As := [.int (ii 61)]) (rest := []) cx hp (mX12_must F l g B h a0 61 ra0 (by decide) o' hx) 12 ra0 (by decide) rfl vw_X12_must ml_X12_241 (by decide) rfl hl.1 rfl (Nat.le_of_ble_eq_true rfl) dX12_same_20) hf (fun _ h H locs hp hf => ?_)
  refine lv_aload_n cx.1 cx.2.1 dX12_same_23 rfl (lv_at hl 2 rfl) ?_
  refine z_iconst cx dX12_same_24 ?_
  refine z_ci cx hp (fun o' hx => zrunV (n := 14) (As := [.int (ii 0)]) (rest := []) cx hp (mX12_term F l g B 10 h a0 0 ra0 (by decide) o' hx) 12 ra0 (by decide) rfl vw_X12_term ml_X12_238 (by decide) rfl hl.1 rfl (Nat.le_of_ble_eq_true rfl) dX12_same_25) hf (fun r5 h H locs rr5 hp hf => ?_)
  refine lv_istore_n (lv' := [(3, .int (ii r5)), (2, .int (ii r3)), (1, .int (ii x2)), (0, .ref (B + a0))]) cx.1 cx.2.1 dX12_same_28 rfl hl (by decide) rfl (fun ls hl => ?_)
  refine lv_aload_n cx.1 cx.2.1 dX12_same_29 rfl (lv_at hl 3 rfl) ?_
  refine z_geti cx hp (T := TX12) 12 35 rfl zin_12 (by decide) (by decide) ra0 rfl fl_X12_218 dX12_same_30 hf (fun x6 rx6 hf => ?_)
  refine z_jn hf (fun j => ∀  (h : HF) (H : Heap) (locs : List Loc) (ls : Array Slot), Hp g B s h H locs → lv_has ls 4 [] → j  h = some o → W p l e (rmn 14) s m args below meth c H locs 0 0 Q (F0 m 60 ls [])) ?_ (fun j60 hj60 hf => ?_)
  · intro  h H locs ls  hp hl hf
    rw [hQ]; exact z_vret cx hp dX12_same_60 hf
  refine z_if_ne cx rx6 (tgt := 60) dX12_same_33 (by decide) hf (fun _ hf => ?_) (fun _ hf => ?_)
  · refine lv_aload_n cx.1 cx.2.1 dX12_same_36 rfl (lv_at hl 3 rfl) ?_
    refine z_gets cx hp (T := TX12) 12 25 (a0 + 19) rfl zin_12 (by decide) (by decide) ra0 rfl fl_X12_64 dX12_same_37 ?_
    refine lv_iload_n cx.1 cx.2.1 dX12_same_40 rfl (lv_at hl 2 rfl) ?_
    refine lv_iload_n cx.1 cx.2.1 dX12_same_41 rfl (lv_at hl 1 rfl) ?_
    refine z_iast cx hp (zs_12_25 a0 (kt_lt ra0 (by decide)) ra0) rx2 rr3 dX12_same_42 hf (fun h H locs hp hf => ?_)
    refine lv_aload_n cx.1 cx.2.1 dX12_same_43 rfl (lv_at hl 3 rfl) ?_
    refine z_gets cx hp (T := TX12) 12 26 (a0 + 20) rfl zin_12 (by decide) (by decide) ra0 rfl fl_X12_67 dX12_same_44 ?_
    refine lv_iload_n cx.1 cx.2.1 dX12_same_47 rfl (lv_at hl 2 rfl) ?_
    refine lv_iload_n cx.1 cx.2.1 dX12_same_48 rfl (lv_at hl 0 rfl) ?_
    refine z_iast cx hp (zs_12_26 a0 (kt_lt ra0 (by decide)) ra0) rx2 rr5 dX12_same_49 hf (fun h H locs hp hf => ?_)
    refine lv_aload_n cx.1 cx.2.1 dX12_same_50 rfl (lv_at hl 3 rfl) ?_
    refine z_gets cx hp (T := TX12) 12 27 (a0 + 21) rfl zin_12 (by decide) (by decide) ra0 rfl fl_X12_70 dX12_same_51 ?_
    refine z_iconst cx dX12_same_54 ?_
    refine lv_dup2_11 cx.1 cx.2.1 dX12_same_55 rfl rfl ?_
    refine z_iald cx hp (zs_12_27 a0 (kt_lt ra0 (by decide)) ra0) (by decide) dX12_same_56 hf (fun x7 rx7 hf => ?_)
    refine z_iconst cx dX12_same_57 ?_
    refine z_iadd cx dX12_same_58 ?_
    refine z_iast cx hp (zs_12_27 a0 (kt_lt ra0 (by decide)) ra0) (by decide) (rng_wr _) dX12_same_59 hf (fun h H locs hp hf => ?_)
    exact hj60  h _ _ ls  hp (lv_sub hl [] rfl) hf
  · exact hj60  h _ _ ls  hp (lv_sub hl [] rfl) hf
theorem dX12_law_0 : decode cX12_law 0 = .ok (.aload_n 0, 1) := by decide +kernel
theorem dX12_law_1 : decode cX12_law 1 = .ok (.getfield 79, 3) := by decide +kernel
theorem dX12_law_4 : decode cX12_law 4 = .ok (.iconst 4, 1) := by decide +kernel
theorem dX12_law_5 : decode cX12_law 5 = .ok (.iaload, 1) := by decide +kernel
theorem dX12_law_6 : decode cX12_law 6 = .ok (.bipush 6, 2) := by decide +kernel
theorem dX12_law_8 : decode cX12_law 8 = .ok (.if_icmp .ne 28, 3) := by decide +kernel
theorem dX12_law_11 : decode cX12_law 11 = .ok (.aload_n 0, 1) := by decide +kernel
theorem dX12_law_12 : decode cX12_law 12 = .ok (.getfield 215, 3) := by decide +kernel
theorem dX12_law_15 : decode cX12_law 15 = .ok (.invokestatic 232, 3) := by decide +kernel
theorem dX12_law_18 : decode cX12_law 18 = .ok (.ifCond .ne 13, 3) := by decide +kernel
theorem dX12_law_21 : decode cX12_law 21 = .ok (.aload_n 0, 1) := by decide +kernel
theorem dX12_law_22 : decode cX12_law 22 = .ok (.getfield 215, 3) := by decide +kernel
theorem dX12_law_25 : decode cX12_law 25 = .ok (.invokestatic 235, 3) := by decide +kernel
theorem dX12_law_28 : decode cX12_law 28 = .ok (.ifCond .eq 8, 3) := by decide +kernel
theorem dX12_law_31 : decode cX12_law 31 = .ok (.aload_n 0, 1) := by decide +kernel
theorem dX12_law_32 : decode cX12_law 32 = .ok (.iconst 4, 1) := by decide +kernel
theorem dX12_law_33 : decode cX12_law 33 = .ok (.invokevirtual 230, 3) := by decide +kernel
theorem dX12_law_36 : decode cX12_law 36 = .ok (.bipush 28, 2) := by decide +kernel
theorem dX12_law_38 : decode cX12_law 38 = .ok (.aload_n 0, 1) := by decide +kernel
theorem dX12_law_39 : decode cX12_law 39 = .ok (.getfield 79, 3) := by decide +kernel
theorem dX12_law_42 : decode cX12_law 42 = .ok (.iconst 4, 1) := by decide +kernel
theorem dX12_law_43 : decode cX12_law 43 = .ok (.iaload, 1) := by decide +kernel
theorem dX12_law_44 : decode cX12_law 44 = .ok (.iadd, 1) := by decide +kernel
theorem dX12_law_45 : decode cX12_law 45 = .ok (.istore_n 1, 1) := by decide +kernel
theorem dX12_law_46 : decode cX12_law 46 = .ok (.aload_n 0, 1) := by decide +kernel
theorem dX12_law_47 : decode cX12_law 47 = .ok (.getfield 73, 3) := by decide +kernel
theorem dX12_law_50 : decode cX12_law 50 = .ok (.iload_n 1, 1) := by decide +kernel
theorem dX12_law_51 : decode cX12_law 51 = .ok (.aload_n 0, 1) := by decide +kernel
theorem dX12_law_52 : decode cX12_law 52 = .ok (.getfield 70, 3) := by decide +kernel
theorem dX12_law_55 : decode cX12_law 55 = .ok (.iconst 4, 1) := by decide +kernel
theorem dX12_law_56 : decode cX12_law 56 = .ok (.iaload, 1) := by decide +kernel
theorem dX12_law_57 : decode cX12_law 57 = .ok (.iastore, 1) := by decide +kernel
theorem dX12_law_58 : decode cX12_law 58 = .ok (.aload_n 0, 1) := by decide +kernel
theorem dX12_law_59 : decode cX12_law 59 = .ok (.getfield 76, 3) := by decide +kernel
theorem dX12_law_62 : decode cX12_law 62 = .ok (.iload_n 1, 1) := by decide +kernel
theorem dX12_law_63 : decode cX12_law 63 = .ok (.aload_n 0, 1) := by decide +kernel
theorem dX12_law_64 : decode cX12_law 64 = .ok (.getfield 61, 3) := by decide +kernel
theorem dX12_law_67 : decode cX12_law 67 = .ok (.iconst 4, 1) := by decide +kernel
theorem dX12_law_68 : decode cX12_law 68 = .ok (.iaload, 1) := by decide +kernel
theorem dX12_law_69 : decode cX12_law 69 = .ok (.iastore, 1) := by decide +kernel
theorem dX12_law_70 : decode cX12_law 70 = .ok (.aload_n 0, 1) := by decide +kernel
theorem dX12_law_71 : decode cX12_law 71 = .ok (.invokevirtual 244, 3) := by decide +kernel
theorem dX12_law_74 : decode cX12_law 74 = .ok (.iconst 0, 1) := by decide +kernel
theorem dX12_law_75 : decode cX12_law 75 = .ok (.istore_n 2, 1) := by decide +kernel
theorem dX12_law_76 : decode cX12_law 76 = .ok (.aload_n 0, 1) := by decide +kernel
theorem dX12_law_77 : decode cX12_law 77 = .ok (.bipush 38, 2) := by decide +kernel
theorem dX12_law_79 : decode cX12_law 79 = .ok (.invokevirtual 227, 3) := by decide +kernel
theorem dX12_law_82 : decode cX12_law 82 = .ok (.ifCond .eq 12, 3) := by decide +kernel
theorem dX12_law_85 : decode cX12_law 85 = .ok (.aload_n 0, 1) := by decide +kernel
theorem dX12_law_86 : decode cX12_law 86 = .ok (.invokevirtual 244, 3) := by decide +kernel
theorem dX12_law_89 : decode cX12_law 89 = .ok (.iconst 1, 1) := by decide +kernel
theorem dX12_law_90 : decode cX12_law 90 = .ok (.istore_n 2, 1) := by decide +kernel
theorem dX12_law_91 : decode cX12_law 91 = .ok (.goto (-15), 3) := by decide +kernel
theorem dX12_law_94 : decode cX12_law 94 = .ok (.iload_n 2, 1) := by decide +kernel
theorem dX12_law_95 : decode cX12_law 95 = .ok (.ifCond .eq 16, 3) := by decide +kernel
theorem dX12_law_98 : decode cX12_law 98 = .ok (.aload_n 0, 1) := by decide +kernel
theorem dX12_law_99 : decode cX12_law 99 = .ok (.bipush 62, 2) := by decide +kernel
theorem dX12_law_101 : decode cX12_law 101 = .ok (.invokevirtual 241, 3) := by decide +kernel
theorem dX12_law_104 : decode cX12_law 104 = .ok (.aload_n 0, 1) := by decide +kernel
theorem dX12_law_105 : decode cX12_law 105 = .ok (.invokevirtual 244, 3) := by decide +kernel
theorem dX12_law_108 : decode cX12_law 108 = .ok (.goto 16, 3) := by decide +kernel
theorem dX12_law_111 : decode cX12_law 111 = .ok (.aload_n 0, 1) := by decide +kernel
theorem dX12_law_112 : decode cX12_law 112 = .ok (.bipush 62, 2) := by decide +kernel
theorem dX12_law_114 : decode cX12_law 114 = .ok (.invokevirtual 227, 3) := by decide +kernel
theorem dX12_law_117 : decode cX12_law 117 = .ok (.ifCond .eq 7, 3) := by decide +kernel
theorem dX12_law_120 : decode cX12_law 120 = .ok (.aload_n 0, 1) := by decide +kernel
theorem dX12_law_121 : decode cX12_law 121 = .ok (.invokevirtual 244, 3) := by decide +kernel
theorem dX12_law_124 : decode cX12_law 124 = .ok (.aload_n 0, 1) := by decide +kernel
theorem dX12_law_125 : decode cX12_law 125 = .ok (.getfield 218, 3) := by decide +kernel
theorem dX12_law_128 : decode cX12_law 128 = .ok (.ifCond .ne 53, 3) := by decide +kernel
theorem dX12_law_131 : decode cX12_law 131 = .ok (.aload_n 0, 1) := by decide +kernel
theorem dX12_law_132 : decode cX12_law 132 = .ok (.getfield 79, 3) := by decide +kernel
theorem dX12_law_135 : decode cX12_law 135 = .ok (.iconst 4, 1) := by decide +kernel
theorem dX12_law_136 : decode cX12_law 136 = .ok (.dup2, 1) := by decide +kernel
theorem dX12_law_137 : decode cX12_law 137 = .ok (.iaload, 1) := by decide +kernel
theorem dX12_law_138 : decode cX12_law 138 = .ok (.iconst 1, 1) := by decide +kernel
theorem dX12_law_139 : decode cX12_law 139 = .ok (.iadd, 1) := by decide +kernel
theorem dX12_law_140 : decode cX12_law 140 = .ok (.iastore, 1) := by decide +kernel
theorem dX12_law_141 : decode cX12_law 141 = .ok (.aload_n 0, 1) := by decide +kernel
theorem dX12_law_142 : decode cX12_law 142 = .ok (.getfield 73, 3) := by decide +kernel
theorem dX12_law_145 : decode cX12_law 145 = .ok (.bipush 28, 2) := by decide +kernel
theorem dX12_law_147 : decode cX12_law 147 = .ok (.aload_n 0, 1) := by decide +kernel
theorem dX12_law_148 : decode cX12_law 148 = .ok (.getfield 79, 3) := by decide +kernel
theorem dX12_law_151 : decode cX12_law 151 = .ok (.iconst 4, 1) := by decide +kernel
theorem dX12_law_152 : decode cX12_law 152 = .ok (.iaload, 1) := by decide +kernel
theorem dX12_law_153 : decode cX12_law 153 = .ok (.iadd, 1) := by decide +kernel
theorem dX12_law_154 : decode cX12_law 154 = .ok (.aload_n 0, 1) := by decide +kernel
theorem dX12_law_155 : decode cX12_law 155 = .ok (.getfield 70, 3) := by decide +kernel
theorem dX12_law_158 : decode cX12_law 158 = .ok (.iconst 4, 1) := by decide +kernel
theorem dX12_law_159 : decode cX12_law 159 = .ok (.iaload, 1) := by decide +kernel
theorem dX12_law_160 : decode cX12_law 160 = .ok (.iastore, 1) := by decide +kernel
theorem dX12_law_161 : decode cX12_law 161 = .ok (.aload_n 0, 1) := by decide +kernel
theorem dX12_law_162 : decode cX12_law 162 = .ok (.getfield 76, 3) := by decide +kernel
theorem dX12_law_165 : decode cX12_law 165 = .ok (.bipush 28, 2) := by decide +kernel
theorem dX12_law_167 : decode cX12_law 167 = .ok (.aload_n 0, 1) := by decide +kernel
theorem dX12_law_168 : decode cX12_law 168 = .ok (.getfield 79, 3) := by decide +kernel
theorem dX12_law_171 : decode cX12_law 171 = .ok (.iconst 4, 1) := by decide +kernel
theorem dX12_law_172 : decode cX12_law 172 = .ok (.iaload, 1) := by decide +kernel
theorem dX12_law_173 : decode cX12_law 173 = .ok (.iadd, 1) := by decide +kernel
theorem dX12_law_174 : decode cX12_law 174 = .ok (.aload_n 0, 1) := by decide +kernel
theorem dX12_law_175 : decode cX12_law 175 = .ok (.getfield 61, 3) := by decide +kernel
theorem dX12_law_178 : decode cX12_law 178 = .ok (.iconst 4, 1) := by decide +kernel
theorem dX12_law_179 : decode cX12_law 179 = .ok (.iaload, 1) := by decide +kernel
theorem dX12_law_180 : decode cX12_law 180 = .ok (.iastore, 1) := by decide +kernel
theorem dX12_law_181 : decode cX12_law 181 = .ok (.return_, 1) := by decide +kernel
def LX12_law_76 (F : Nat) (u0 : Nat) (k94 : Int → HF → RO) : Nat → Int → HF → RO
  | 0, _, _ => none
  | n + 1, v2, h =>
    zbd (fX12_takes F u0 38 h) fun r17 h =>
    if r17 = 0 then (
      k94 v2 h
    ) else (
      zbd (fX12_same F u0 h) fun _ h =>
      LX12_law_76 F u0 k94 n 1 h
    )
set_option maxHeartbeats 4000000 in
set_option maxRecDepth 100000 in
theorem wX12_law_76 {p : Program} {l : Launch} {e : Env} {s : State} {m : MethodId} {args : Array Value} {below : List Frame} {meth : Method} {c : Code} {Q : State → Prop} {g : zG} {B : Nat} {o : Int × HF} (F : Nat) (cx : Cx p s m args meth c cX12_law 3 RX12 none g B) (u0 : Nat) (ru0 : kt u0 = 15) (k94 : Int → HF → RO) (hk94 : ∀ (x2 : Int) (h : HF) (H : Heap) (locs : List Loc) (ls : Array Slot), rng x2 → Hp g B s h H locs → lv_has ls 3 [(0, .ref (B + u0)), (2, .int (ii x2))] → k94 x2 h = some o → W p l e (rmn 15) s m args below meth c H locs 0 0 Q (F0 m 94 ls [])) : ∀ (n : Nat) (v2 : Int) (h : HF) (H : Heap) (locs : List Loc) (ls : Array Slot), rng v2 → Hp g B s h H locs → lv_has ls 3 [(0, .ref (B + u0)), (2, .int (ii v2))] → LX12_law_76 F u0 k94 n v2 h = some o → W p l e (rmn 15) s m args below meth c H locs 0 0 Q (F0 m 76 ls []) := by
  intro n
  induction n with
  | zero =>
    intro v2 h H locs ls rv2 hp hl hf
    cases hf
  | succ n ih =>
    intro v2 h H locs ls rv2 hp hl hf
    rw [LX12_law_76] at hf
    refine lv_aload_n cx.1 cx.2.1 dX12_law_76 rfl (lv_at hl 0 rfl) ?_
    refine z_bipush cx (by decide) dX12_law_77 ?_
    refine z_ci cx hp (fun o' hx => zrunV (n := 15) (As := [.int (ii 38)]) (rest := []) cx hp (mX12_takes F l g B h u0 38 ru0 (by decide) o' hx) 12 ru0 (by decide) rfl vw_X12_takes ml_X12_227 (by decide) rfl hl.1 rfl (Nat.le_of_ble_eq_true rfl) dX12_law_79) hf (fun r17 h H locs rr17 hp hf => ?_)
    refine z_if_eq cx rr17 (tgt := 94) dX12_law_82 (by decide) hf (fun _ hf => ?_) (fun _ hf => ?_)
    · exact hk94 v2 h _ _ ls rv2 hp (lv_sub hl [0, 1] rfl) hf
    · refine lv_aload_n cx.1 cx.2.1 dX12_law_85 rfl (lv_at hl 0 rfl) ?_
      refine z_cv cx hp (fun o' hx => zrunV (n := 15) (As := []) (rest := []) cx hp (mX12_same F l g B h u0 ru0 o' hx) 12 ru0 (by decide) rfl vw_X12_same ml_X12_244 (by decide) rfl hl.1 rfl (Nat.le_of_ble_eq_true rfl) dX12_law_86) hf (fun _ h H locs hp hf => ?_)
      refine z_iconst cx dX12_law_89 ?_
      refine lv_istore_n (lv' := [(2, .int (ii 1)), (0, .ref (B + u0))]) cx.1 cx.2.1 dX12_law_90 rfl hl (by decide) rfl (fun ls hl => ?_)
      refine lv_goto (tgt := 76) cx.1 cx.2.1 dX12_law_91 (by decide) ?_
      exact ih 1 h _ _ ls (by decide) hp (lv_sub hl [1, 0] rfl) hf
def fX12_law (F : Nat) (a0 : Nat) (h : HF) : RO :=
  zrd h (a0 + 24) 4 fun x1 =>
  zjn (fun  (h : HF) => (
    zrd h (a0 + 24) 4 fun x2 =>
    zlet (wr (28 + x2)) fun x3 =>
    zrd h (a0 + 21) 4 fun x4 =>
    zwr h (a0 + 22) x3 x4 fun h =>
    zrd h (a0 + 18) 4 fun x5 =>
    zwr h (a0 + 23) x3 x5 fun h =>
    zbd (fX12_same F a0 h) fun _ h =>
    zjn (fun (x94_2 : Int) (h : HF) => (
      zjn (fun  (h : HF) => (
        zgf h a0 35 fun x7 =>
        zjn (fun  (h : HF) => (
          some (0, h)
        )) fun j181 =>
        if x7 = 0 then (
          zrd h (a0 + 24) 4 fun x8 =>
          zwr h (a0 + 24) 4 (wr (x8 + 1)) fun h =>
          zrd h (a0 + 24) 4 fun x9 =>
          zrd h (a0 + 21) 4 fun x10 =>
          zwr h (a0 + 22) (wr (28 + x9)) x10 fun h =>
          zrd h (a0 + 24) 4 fun x11 =>
          zrd h (a0 + 18) 4 fun x12 =>
          zwr h (a0 + 23) (wr (28 + x11)) x12 fun h =>
          j181  h
        ) else (
          j181  h
        )
      )) fun j124 =>
      if x94_2 = 0 then (
        zbd (fX12_takes F a0 62 h) fun r13 h =>
        if r13 = 0 then (
          j124  h
        ) else (
          zbd (fX12_same F a0 h) fun _ h =>
          j124  h
        )
      ) else (
        zbd (fX12_must F a0 62 h) fun _ h =>
        zbd (fX12_same F a0 h) fun _ h =>
        j124  h
      )
    )) fun j94 =>
    LX12_law_76 F a0 j94 F 0 h
  )) fun j36 =>
  if x1 = 6 then (
    zgf h a0 33 fun x19 =>
    zbd (fX12_isVariable F x19 h) fun r20 h =>
    zjn (fun  (h : HF) => (
      zbd (fX12_wrong F a0 4 h) fun _ h =>
      j36  h
    )) fun j31 =>
    if r20 = 0 then (
      zgf h a0 33 fun x22 =>
      zbd (fX12_isLetter F x22 h) fun r23 h =>
      if r23 = 0 then (
        j36  h
      ) else (
        j31  h
      )
    ) else (
      j31  h
    )
  ) else (
    j36  h
  )
set_option maxHeartbeats 4000000 in
set_option maxRecDepth 100000 in
theorem mX12_law (F : Nat) (l : Launch) (g : zG) (B : Nat) (h : HF) (a0 : Nat) (ra0 : kt a0 = 15) : CTv l g B yX12_law cX12_law 3 15 [.ref (B + a0)] h (fX12_law F a0 h) := by
  refine z_enterV (by decide) rfl (Nat.le_of_ble_eq_true rfl) ?_
  intro p e s m args below meth c ls o Q cx hp hl hf hQ
  have hl : lv_has ls 3 [(0, .ref (B + a0))] := hl
  unfold fX12_law at hf
  refine lv_aload_n cx.1 cx.2.1 dX12_law_0 rfl (lv_at hl 0 rfl) ?_
  refine z_gets cx hp (T := TX12) 12 30 (a0 + 24) rfl zin_12 (by decide) (by decide) ra0 rfl fl_X12_79 dX12_law_1 ?_
  refine z_iconst cx dX12_law_4 ?_
  refine z_iald cx hp (zs_12_30 a0 (kt_lt ra0 (by decide)) ra0) (by decide) dX12_law_5 hf (fun x1 rx1 hf => ?_)
  refine z_bipush cx (by decide) dX12_law_6 ?_
  refine z_jn hf (fun j => ∀  (h : HF) (H : Heap) (locs : List Loc) (ls : Array Slot), Hp g B s h H locs → lv_has ls 3 [(0, .ref (B + a0))] → j  h = some o → W p l e (rmn 15) s m args below meth c H locs 0 0 Q (F0 m 36 ls [])) ?_ (fun j36 hj36 hf => ?_)
  · intro  h H locs ls  hp hl hf
    refine z_bipush cx (by decide) dX12_law_36 ?_
    refine lv_aload_n cx.1 cx.2.1 dX12_law_38 rfl (lv_at hl 0 rfl) ?_
    refine z_gets cx hp (T := TX12) 12 30 (a0 + 24) rfl zin_12 (by decide) (by decide) ra0 rfl fl_X12_79 dX12_law_39 ?_
    refine z_iconst cx dX12_law_42 ?_
    refine z_iald cx hp (zs_12_30 a0 (kt_lt ra0 (by decide)) ra0) (by decide) dX12_law_43 hf (fun x2 rx2 hf => ?_)
    refine z_iadd cx dX12_law_44 ?_
    refine z_let (rng_wr _) hf (fun x3 rx3 hf => ?_)
    refine lv_istore_n (lv' := [(1, .int (ii x3)), (0, .ref (B + a0))]) cx.1 cx.2.1 dX12_law_45 rfl hl (by decide) rfl (fun ls hl => ?_)
    refine lv_aload_n cx.1 cx.2.1 dX12_law_46 rfl (lv_at hl 1 rfl) ?_
    refine z_gets cx hp (T := TX12) 12 28 (a0 + 22) rfl zin_12 (by decide) (by decide) ra0 rfl fl_X12_73 dX12_law_47 ?_
    refine lv_iload_n cx.1 cx.2.1 dX12_law_50 rfl (lv_at hl 0 rfl) ?_
    refine lv_aload_n cx.1 cx.2.1 dX12_law_51 rfl (lv_at hl 1 rfl) ?_
    refine z_gets cx hp (T := TX12) 12 27 (a0 + 21) rfl zin_12 (by decide) (by decide) ra0 rfl fl_X12_70 dX12_law_52 ?_
    refine z_iconst cx dX12_law_55 ?_
    refine z_iald cx hp (zs_12_27 a0 (kt_lt ra0 (by decide)) ra0) (by decide) dX12_law_56 hf (fun x4 rx4 hf => ?_)
    refine z_iast cx hp (zs_12_28 a0 (kt_lt ra0 (by decide)) ra0) rx3 rx4 dX12_law_57 hf (fun h H locs hp hf => ?_)
    refine lv_aload_n cx.1 cx.2.1 dX12_law_58 rfl (lv_at hl 1 rfl) ?_
    refine z_gets cx hp (T := TX12) 12 29 (a0 + 23) rfl zin_12 (by decide) (by decide) ra0 rfl fl_X12_76 dX12_law_59 ?_
    refine lv_iload_n cx.1 cx.2.1 dX12_law_62 rfl (lv_at hl 0 rfl) ?_
    refine lv_aload_n cx.1 cx.2.1 dX12_law_63 rfl (lv_at hl 1 rfl) ?_
    refine z_gets cx hp (T := TX12) 12 24 (a0 + 18) rfl zin_12 (by decide) (by decide) ra0 rfl fl_X12_61 dX12_law_64 ?_
    refine z_iconst cx dX12_law_67 ?_
    refine z_iald cx hp (zs_12_24 a0 (kt_lt ra0 (by decide)) ra0) (by decide) dX12_law_68 hf (fun x5 rx5 hf => ?_)
    refine z_iast cx hp (zs_12_29 a0 (kt_lt ra0 (by decide)) ra0) rx3 rx5 dX12_law_69 hf (fun h H locs hp hf => ?_)
    refine lv_aload_n cx.1 cx.2.1 dX12_law_70 rfl (lv_at hl 1 rfl) ?_
    refine z_cv cx hp (fun o' hx => zrunV (n := 15) (As := []) (rest := []) cx hp (mX12_same F l g B h a0 ra0 o' hx) 12 ra0 (by decide) rfl vw_X12_same ml_X12_244 (by decide) rfl hl.1 rfl (Nat.le_of_ble_eq_true rfl) dX12_law_71) hf (fun _ h H locs hp hf => ?_)
    refine z_iconst cx dX12_law_74 ?_
    refine lv_istore_n (lv' := [(2, .int (ii 0)), (1, .int (ii x3)), (0, .ref (B + a0))]) cx.1 cx.2.1 dX12_law_75 rfl hl (by decide) rfl (fun ls hl => ?_)
    refine z_jn hf (fun j => ∀ (x94_2 : Int) (h : HF) (H : Heap) (locs : List Loc) (ls : Array Slot), rng x94_2 → Hp g B s h H locs → lv_has ls 3 [(0, .ref (B + a0)), (2, .int (ii x94_2))] → j x94_2 h = some o → W p l e (rmn 15) s m args below meth c H locs 0 0 Q (F0 m 94 ls [])) ?_ (fun j94 hj94 hf => ?_)
    · intro x94_2 h H locs ls rx94_2 hp hl hf
      refine lv_iload_n cx.1 cx.2.1 dX12_law_94 rfl (lv_at hl 1 rfl) ?_
      refine z_jn hf (fun j => ∀  (h : HF) (H : Heap) (locs : List Loc) (ls : Array Slot), Hp g B s h H locs → lv_has ls 3 [(0, .ref (B + a0))] → j  h = some o → W p l e (rmn 15) s m args below meth c H locs 0 0 Q (F0 m 124 ls [])) ?_ (fun j124 hj124 hf => ?_)
      · intro  h H locs ls  hp hl hf
        refine lv_aload_n cx.1 cx.2.1 dX12_law_124 rfl (lv_at hl 0 rfl) ?_
        refine z_geti cx hp (T := TX12) 12 35 rfl zin_12 (by decide) (by decide) ra0 rfl fl_X12_218 dX12_law_125 hf (fun x7 rx7 hf => ?_)
        refine z_jn hf (fun j => ∀  (h : HF) (H : Heap) (locs : List Loc) (ls : Array Slot), Hp g B s h H locs → lv_has ls 3 [] → j  h = some o → W p l e (rmn 15) s m args below meth c H locs 0 0 Q (F0 m 181 ls [])) ?_ (fun j181 hj181 hf => ?_)
        · intro  h H locs ls  hp hl hf
          rw [hQ]; exact z_vret cx hp dX12_law_181 hf
        refine z_if_ne cx rx7 (tgt := 181) dX12_law_128 (by decide) hf (fun _ hf => ?_) (fun _ hf => ?_)
        · refine lv_aload_n cx.1 cx.2.1 dX12_law_131 rfl (lv_at hl 0 rfl) ?_
          refine z_gets cx hp (T := TX12) 12 30 (a0 + 24) rfl zin_12 (by decide) (by decide) ra0 rfl fl_X12_79 dX12_law_132 ?_
          refine z_iconst cx dX12_law_135 ?_
          refine lv_dup2_11 cx.1 cx.2.1 dX12_law_136 rfl rfl ?_
          refine z_iald cx hp (zs_12_30 a0 (kt_lt ra0 (by decide)) ra0) (by decide) dX12_law_137 hf (fun x8 rx8 hf => ?_)
          refine z_iconst cx dX12_law_138 ?_
          refine z_iadd cx dX12_law_139 ?_
          refine z_iast cx hp (zs_12_30 a0 (kt_lt ra0 (by decide)) ra0) (by decide) (rng_wr _) dX12_law_140 hf (fun h H locs hp hf => ?_)
          refine lv_aload_n cx.1 cx.2.1 dX12_law_141 rfl (lv_at hl 0 rfl) ?_
          refine z_gets cx hp (T := TX12) 12 28 (a0 + 22) rfl zin_12 (by decide) (by decide) ra0 rfl fl_X12_73 dX12_law_142 ?_
          refine z_bipush cx (by decide) dX12_law_145 ?_
          refine lv_aload_n cx.1 cx.2.1 dX12_law_147 rfl (lv_at hl 0 rfl) ?_
          refine z_gets cx hp (T := TX12) 12 30 (a0 + 24) rfl zin_12 (by decide) (by decide) ra0 rfl fl_X12_79 dX12_law_148 ?_
          refine z_iconst cx dX12_law_151 ?_
          refine z_iald cx hp (zs_12_30 a0 (kt_lt ra0 (by decide)) ra0) (by decide) dX12_law_152 hf (fun x9 rx9 hf => ?_)
          refine z_iadd cx dX12_law_153 ?_
          refine lv_aload_n cx.1 cx.2.1 dX12_law_154 rfl (lv_at hl 0 rfl) ?_
          refine z_gets cx hp (T := TX12) 12 27 (a0 + 21) rfl zin_12 (by decide) (by decide) ra0 rfl fl_X12_70 dX12_law_155 ?_
          refine z_iconst cx dX12_law_158 ?_
          refine z_iald cx hp (zs_12_27 a0 (kt_lt ra0 (by decide)) ra0) (by decide) dX12_law_159 hf (fun x10 rx10 hf => ?_)
          refine z_iast cx hp (zs_12_28 a0 (kt_lt ra0 (by decide)) ra0) (rng_wr _) rx10 dX12_law_160 hf (fun h H locs hp hf => ?_)
          refine lv_aload_n cx.1 cx.2.1 dX12_law_161 rfl (lv_at hl 0 rfl) ?_
          refine z_gets cx hp (T := TX12) 12 29 (a0 + 23) rfl zin_12 (by decide) (by decide) ra0 rfl fl_X12_76 dX12_law_162 ?_
          refine z_bipush cx (by decide) dX12_law_165 ?_
          refine lv_aload_n cx.1 cx.2.1 dX12_law_167 rfl (lv_at hl 0 rfl) ?_
          refine z_gets cx hp (T := TX12) 12 30 (a0 + 24) rfl zin_12 (by decide) (by decide) ra0 rfl fl_X12_79 dX12_law_168 ?_
          refine z_iconst cx dX12_law_171 ?_
          refine z_iald cx hp (zs_12_30 a0 (kt_lt ra0 (by decide)) ra0) (by decide) dX12_law_172 hf (fun x11 rx11 hf => ?_)
          refine z_iadd cx dX12_law_173 ?_
          refine lv_aload_n cx.1 cx.2.1 dX12_law_174 rfl (lv_at hl 0 rfl) ?_
          refine z_gets cx hp (T := TX12) 12 24 (a0 + 18) rfl zin_12 (by decide) (by decide) ra0 rfl fl_X12_61 dX12_law_175 ?_
          refine z_iconst cx dX12_law_178 ?_
          refine z_iald cx hp (zs_12_24 a0 (kt_lt ra0 (by decide)) ra0) (by decide) dX12_law_179 hf (fun x12 rx12 hf => ?_)
          refine z_iast cx hp (zs_12_29 a0 (kt_lt ra0 (by decide)) ra0) (rng_wr _) rx12 dX12_law_180 hf (fun h H locs hp hf => ?_)
          exact hj181  h _ _ ls  hp (lv_sub hl [] rfl) hf
        · exact hj181  h _ _ ls  hp (lv_sub hl [] rfl) hf
      refine z_if_eq cx rx94_2 (tgt := 111) dX12_law_95 (by decide) hf (fun _ hf => ?_) (fun _ hf => ?_)
      · refine lv_aload_n cx.1 cx.2.1 dX12_law_111 rfl (lv_at hl 0 rfl) ?_
        refine z_bipush cx (by decide) dX12_law_112 ?_
        refine z_ci cx hp (fun o' hx => zrunV (n := 15) (As := [.int (ii 62)]) (rest := []) cx hp (mX12_takes F l g B h a0 62 ra0 (by decide) o' hx) 12 ra0 (by decide) rfl vw_X12_takes ml_X12_227 (by decide) rfl hl.1 rfl (Nat.le_of_ble_eq_true rfl) dX12_law_114) hf (fun r13 h H locs rr13 hp hf => ?_)
        refine z_if_eq cx rr13 (tgt := 124) dX12_law_117 (by decide) hf (fun _ hf => ?_) (fun _ hf => ?_)
        · exact hj124  h _ _ ls  hp (lv_sub hl [0] rfl) hf
        · refine lv_aload_n cx.1 cx.2.1 dX12_law_120 rfl (lv_at hl 0 rfl) ?_
          refine z_cv cx hp (fun o' hx => zrunV (n := 15) (As := []) (rest := []) cx hp (mX12_same F l g B h a0 ra0 o' hx) 12 ra0 (by decide) rfl vw_X12_same ml_X12_244 (by decide) rfl hl.1 rfl (Nat.le_of_ble_eq_true rfl) dX12_law_121) hf (fun _ h H locs hp hf => ?_)
          exact hj124  h _ _ ls  hp (lv_sub hl [0] rfl) hf
      · refine lv_aload_n cx.1 cx.2.1 dX12_law_98 rfl (lv_at hl 0 rfl) ?_
        refine z_bipush cx (by decide) dX12_law_99 ?_
        refine z_cv cx hp (fun o' hx => zrunV (n := 15) (As := [.int (ii 62)]) (rest := []) cx hp (mX12_must F l g B h a0 62 ra0 (by decide) o' hx) 12 ra0 (by decide) rfl vw_X12_must ml_X12_241 (by decide) rfl hl.1 rfl (Nat.le_of_ble_eq_true rfl) dX12_law_101) hf (fun _ h H locs hp hf => ?_)
        refine lv_aload_n cx.1 cx.2.1 dX12_law_104 rfl (lv_at hl 0 rfl) ?_
        refine z_cv cx hp (fun o' hx => zrunV (n := 15) (As := []) (rest := []) cx hp (mX12_same F l g B h a0 ra0 o' hx) 12 ra0 (by decide) rfl vw_X12_same ml_X12_244 (by decide) rfl hl.1 rfl (Nat.le_of_ble_eq_true rfl) dX12_law_105) hf (fun _ h H locs hp hf => ?_)
        refine lv_goto (tgt := 124) cx.1 cx.2.1 dX12_law_108 (by decide) ?_
        exact hj124  h _ _ ls  hp (lv_sub hl [0] rfl) hf
    exact wX12_law_76 F cx a0 ra0 j94 hj94 F 0 h _ _ ls (by decide) hp (lv_sub hl [2, 0] rfl) hf
  refine z_icmp_ne cx rx1 (by decide) (tgt := 36) dX12_law_8 (by decide) hf (fun _ hf => ?_) (fun _ hf => ?_)
  · refine lv_aload_n cx.1 cx.2.1 dX12_law_11 rfl (lv_at hl 0 rfl) ?_
    refine z_geti cx hp (T := TX12) 12 33 rfl zin_12 (by decide) (by decide) ra0 rfl fl_X12_215 dX12_law_12 hf (fun x19 rx19 hf => ?_)
    refine z_ci cx hp (fun o' hx => zrunS (n := 15) (As := [.int (ii x19)]) (rest := []) cx hp (mX12_isVariable F l g B h x19 rx19 o' hx) sw_X12_isVariable ml_X12_232 (by decide) rfl hl.1 rfl (Nat.le_of_ble_eq_true rfl) dX12_law_15) hf (fun r20 h H locs rr20 hp hf => ?_)
    refine z_jn hf (fun j => ∀  (h : HF) (H : Heap) (locs : List Loc) (ls : Array Slot), Hp g B s h H locs → lv_has ls 3 [(0, .ref (B + a0))] → j  h = some o → W p l e (rmn 15) s m args below meth c H locs 0 0 Q (F0 m 31 ls [])) ?_ (fun j31 hj31 hf => ?_)
    · intro  h H locs ls  hp hl hf
      refine lv_aload_n cx.1 cx.2.1 dX12_law_31 rfl (lv_at hl 0 rfl) ?_
      refine z_iconst cx dX12_law_32 ?_
      refine z_cv cx hp (fun o' hx => zrunV (n := 15) (As := [.int (ii 4)]) (rest := []) cx hp (mX12_wrong F l g B h a0 4 ra0 (by decide) o' hx) 12 ra0 (by decide) rfl vw_X12_wrong ml_X12_230 (by decide) rfl hl.1 rfl (Nat.le_of_ble_eq_true rfl) dX12_law_33) hf (fun _ h H locs hp hf => ?_)
      exact hj36  h _ _ ls  hp (lv_sub hl [0] rfl) hf
    refine z_if_ne cx rr20 (tgt := 31) dX12_law_18 (by decide) hf (fun _ hf => ?_) (fun _ hf => ?_)
    · refine lv_aload_n cx.1 cx.2.1 dX12_law_21 rfl (lv_at hl 0 rfl) ?_
      refine z_geti cx hp (T := TX12) 12 33 rfl zin_12 (by decide) (by decide) ra0 rfl fl_X12_215 dX12_law_22 hf (fun x22 rx22 hf => ?_)
      refine z_ci cx hp (fun o' hx => zrunS (n := 15) (As := [.int (ii x22)]) (rest := []) cx hp (mX12_isLetter F l g B h x22 rx22 o' hx) sw_X12_isLetter ml_X12_235 (by decide) rfl hl.1 rfl (Nat.le_of_ble_eq_true rfl) dX12_law_25) hf (fun r23 h H locs rr23 hp hf => ?_)
      refine z_if_eq cx rr23 (tgt := 36) dX12_law_28 (by decide) hf (fun _ hf => ?_) (fun _ hf => ?_)
      · exact hj36  h _ _ ls  hp (lv_sub hl [0] rfl) hf
      · exact hj31  h _ _ ls  hp (lv_sub hl [0] rfl) hf
    · exact hj31  h _ _ ls  hp (lv_sub hl [0] rfl) hf
  · exact hj36  h _ _ ls  hp (lv_sub hl [0] rfl) hf
theorem dX12_agree_0 : decode cX12_agree 0 = .ok (.iconst 0, 1) := by decide +kernel
theorem dX12_agree_1 : decode cX12_agree 1 = .ok (.istore_n 1, 1) := by decide +kernel
theorem dX12_agree_2 : decode cX12_agree 2 = .ok (.iload_n 1, 1) := by decide +kernel
theorem dX12_agree_3 : decode cX12_agree 3 = .ok (.aload_n 0, 1) := by decide +kernel
theorem dX12_agree_4 : decode cX12_agree 4 = .ok (.getfield 61, 3) := by decide +kernel
theorem dX12_agree_7 : decode cX12_agree 7 = .ok (.iconst 4, 1) := by decide +kernel
theorem dX12_agree_8 : decode cX12_agree 8 = .ok (.iaload, 1) := by decide +kernel
theorem dX12_agree_9 : decode cX12_agree 9 = .ok (.if_icmp .ge 85, 3) := by decide +kernel
theorem dX12_agree_12 : decode cX12_agree 12 = .ok (.aload_n 0, 1) := by decide +kernel
theorem dX12_agree_13 : decode cX12_agree 13 = .ok (.getfield 218, 3) := by decide +kernel
theorem dX12_agree_16 : decode cX12_agree 16 = .ok (.ifCond .ne 78, 3) := by decide +kernel
theorem dX12_agree_19 : decode cX12_agree 19 = .ok (.iconst 0, 1) := by decide +kernel
theorem dX12_agree_20 : decode cX12_agree 20 = .ok (.istore_n 2, 1) := by decide +kernel
theorem dX12_agree_21 : decode cX12_agree 21 = .ok (.aload_n 0, 1) := by decide +kernel
theorem dX12_agree_22 : decode cX12_agree 22 = .ok (.getfield 46, 3) := by decide +kernel
theorem dX12_agree_25 : decode cX12_agree 25 = .ok (.sipush 320, 3) := by decide +kernel
theorem dX12_agree_28 : decode cX12_agree 28 = .ok (.iload_n 2, 1) := by decide +kernel
theorem dX12_agree_29 : decode cX12_agree 29 = .ok (.iadd, 1) := by decide +kernel
theorem dX12_agree_30 : decode cX12_agree 30 = .ok (.iaload, 1) := by decide +kernel
theorem dX12_agree_31 : decode cX12_agree 31 = .ok (.aload_n 0, 1) := by decide +kernel
theorem dX12_agree_32 : decode cX12_agree 32 = .ok (.getfield 46, 3) := by decide +kernel
theorem dX12_agree_35 : decode cX12_agree 35 = .ok (.sipush 320, 3) := by decide +kernel
theorem dX12_agree_38 : decode cX12_agree 38 = .ok (.iload_n 1, 1) := by decide +kernel
theorem dX12_agree_39 : decode cX12_agree 39 = .ok (.iadd, 1) := by decide +kernel
theorem dX12_agree_40 : decode cX12_agree 40 = .ok (.iaload, 1) := by decide +kernel
theorem dX12_agree_41 : decode cX12_agree 41 = .ok (.if_icmp .eq 9, 3) := by decide +kernel
theorem dX12_agree_44 : decode cX12_agree 44 = .ok (.iinc 2 1, 3) := by decide +kernel
theorem dX12_agree_47 : decode cX12_agree 47 = .ok (.goto (-26), 3) := by decide +kernel
theorem dX12_agree_50 : decode cX12_agree 50 = .ok (.aload_n 0, 1) := by decide +kernel
theorem dX12_agree_51 : decode cX12_agree 51 = .ok (.getfield 49, 3) := by decide +kernel
theorem dX12_agree_54 : decode cX12_agree 54 = .ok (.sipush 320, 3) := by decide +kernel
theorem dX12_agree_57 : decode cX12_agree 57 = .ok (.iload_n 2, 1) := by decide +kernel
theorem dX12_agree_58 : decode cX12_agree 58 = .ok (.iadd, 1) := by decide +kernel
theorem dX12_agree_59 : decode cX12_agree 59 = .ok (.iaload, 1) := by decide +kernel
theorem dX12_agree_60 : decode cX12_agree 60 = .ok (.aload_n 0, 1) := by decide +kernel
theorem dX12_agree_61 : decode cX12_agree 61 = .ok (.getfield 49, 3) := by decide +kernel
theorem dX12_agree_64 : decode cX12_agree 64 = .ok (.sipush 320, 3) := by decide +kernel
theorem dX12_agree_67 : decode cX12_agree 67 = .ok (.iload_n 1, 1) := by decide +kernel
theorem dX12_agree_68 : decode cX12_agree 68 = .ok (.iadd, 1) := by decide +kernel
theorem dX12_agree_69 : decode cX12_agree 69 = .ok (.iaload, 1) := by decide +kernel
theorem dX12_agree_70 : decode cX12_agree 70 = .ok (.if_icmp .eq 18, 3) := by decide +kernel
theorem dX12_agree_73 : decode cX12_agree 73 = .ok (.aload_n 0, 1) := by decide +kernel
theorem dX12_agree_74 : decode cX12_agree 74 = .ok (.iconst 2, 1) := by decide +kernel
theorem dX12_agree_75 : decode cX12_agree 75 = .ok (.putfield 218, 3) := by decide +kernel
theorem dX12_agree_78 : decode cX12_agree 78 = .ok (.aload_n 0, 1) := by decide +kernel
theorem dX12_agree_79 : decode cX12_agree 79 = .ok (.aload_n 0, 1) := by decide +kernel
theorem dX12_agree_80 : decode cX12_agree 80 = .ok (.getfield 58, 3) := by decide +kernel
theorem dX12_agree_83 : decode cX12_agree 83 = .ok (.iload_n 1, 1) := by decide +kernel
theorem dX12_agree_84 : decode cX12_agree 84 = .ok (.iaload, 1) := by decide +kernel
theorem dX12_agree_85 : decode cX12_agree 85 = .ok (.putfield 221, 3) := by decide +kernel
theorem dX12_agree_88 : decode cX12_agree 88 = .ok (.iinc 1 1, 3) := by decide +kernel
theorem dX12_agree_91 : decode cX12_agree 91 = .ok (.goto (-89), 3) := by decide +kernel
theorem dX12_agree_94 : decode cX12_agree 94 = .ok (.return_, 1) := by decide +kernel
def LX12_agree_21 (F : Nat) (u0 : Nat) (u1 : Int) (k50 : Int → Int → HF → RO) : Nat → Int → HF → RO
  | 0, _, _ => none
  | n + 1, v2, h =>
    zrd h (u0 + 13) (wr (320 + v2)) fun x7 =>
    zrd h (u0 + 13) (wr (320 + u1)) fun x8 =>
    if x7 = x8 then (
      k50 u1 v2 h
    ) else (
      zlet (wr (v2 + 1)) fun x9 =>
      LX12_agree_21 F u0 u1 k50 n x9 h
    )
set_option maxHeartbeats 4000000 in
set_option maxRecDepth 100000 in
theorem wX12_agree_21 {p : Program} {l : Launch} {e : Env} {s : State} {m : MethodId} {args : Array Value} {below : List Frame} {meth : Method} {c : Code} {Q : State → Prop} {g : zG} {B : Nat} {o : Int × HF} (F : Nat) (cx : Cx p s m args meth c cX12_agree 3 RX12 none g B) (u0 : Nat) (ru0 : kt u0 = 15) (u1 : Int) (ru1 : rng u1) (k50 : Int → Int → HF → RO) (hk50 : ∀ (x1 : Int) (x2 : Int) (h : HF) (H : Heap) (locs : List Loc) (ls : Array Slot), rng x1 → rng x2 → Hp g B s h H locs → lv_has ls 3 [(0, .ref (B + u0)), (1, .int (ii x1)), (2, .int (ii x2))] → k50 x1 x2 h = some o → W p l e (rmn 0) s m args below meth c H locs 0 0 Q (F0 m 50 ls [])) : ∀ (n : Nat) (v2 : Int) (h : HF) (H : Heap) (locs : List Loc) (ls : Array Slot), rng v2 → Hp g B s h H locs → lv_has ls 3 [(0, .ref (B + u0)), (1, .int (ii u1)), (2, .int (ii v2))] → LX12_agree_21 F u0 u1 k50 n v2 h = some o → W p l e (rmn 0) s m args below meth c H locs 0 0 Q (F0 m 21 ls []) := by
  intro n
  induction n with
  | zero =>
    intro v2 h H locs ls rv2 hp hl hf
    cases hf
  | succ n ih =>
    intro v2 h H locs ls rv2 hp hl hf
    rw [LX12_agree_21] at hf
    refine lv_aload_n cx.1 cx.2.1 dX12_agree_21 rfl (lv_at hl 0 rfl) ?_
    refine z_gets cx hp (T := TX12) 12 19 (u0 + 13) rfl zin_12 (by decide) (by decide) ru0 rfl fl_X12_46 dX12_agree_22 ?_
    refine z_sipush cx (by decide) dX12_agree_25 ?_
    refine lv_iload_n cx.1 cx.2.1 dX12_agree_28 rfl (lv_at hl 2 rfl) ?_
    refine z_iadd cx dX12_agree_29 ?_
    refine z_iald cx hp (zs_12_19 u0 (kt_lt ru0 (by decide)) ru0) (rng_wr _) dX12_agree_30 hf (fun x7 rx7 hf => ?_)
    refine lv_aload_n cx.1 cx.2.1 dX12_agree_31 rfl (lv_at hl 0 rfl) ?_
    refine z_gets cx hp (T := TX12) 12 19 (u0 + 13) rfl zin_12 (by decide) (by decide) ru0 rfl fl_X12_46 dX12_agree_32 ?_
    refine z_sipush cx (by decide) dX12_agree_35 ?_
    refine lv_iload_n cx.1 cx.2.1 dX12_agree_38 rfl (lv_at hl 1 rfl) ?_
    refine z_iadd cx dX12_agree_39 ?_
    refine z_iald cx hp (zs_12_19 u0 (kt_lt ru0 (by decide)) ru0) (rng_wr _) dX12_agree_40 hf (fun x8 rx8 hf => ?_)
    refine z_icmp_eq cx rx7 rx8 (tgt := 50) dX12_agree_41 (by decide) hf (fun _ hf => ?_) (fun _ hf => ?_)
    · exact hk50 u1 v2 h _ _ ls ru1 rv2 hp (lv_sub hl [0, 1, 2] rfl) hf
    · refine z_iinc cx (fun x9 => [(2, .int (ii x9)), (0, .ref (B + u0)), (1, .int (ii u1))]) dX12_agree_44 hl (k := 2) rfl (by decide) (fun _ => rfl) hf (fun x9 rx9 hf ls hl => ?_)
      refine lv_goto (tgt := 21) cx.1 cx.2.1 dX12_agree_47 (by decide) ?_
      exact ih x9 h _ _ ls rx9 hp (lv_sub hl [1, 2, 0] rfl) hf
def LX12_agree_2 (F : Nat) (u0 : Nat) (k94 : HF → RO) : Nat → Int → HF → RO
  | 0, _, _ => none
  | n + 1, v1, h =>
    zrd h (u0 + 18) 4 fun x1 =>
    if v1 < x1 then (
      zgf h u0 35 fun x2 =>
      if x2 = 0 then (
        zjn (fun (x50_1 : Int) (x50_2 : Int) (h : HF) => (
          zrd h (u0 + 14) (wr (320 + x50_2)) fun x3 =>
          zrd h (u0 + 14) (wr (320 + x50_1)) fun x4 =>
          zjn (fun (x88_1 : Int) (h : HF) => (
            zlet (wr (x88_1 + 1)) fun x5 =>
            LX12_agree_2 F u0 k94 n x5 h
          )) fun j88 =>
          if x3 = x4 then (
            j88 x50_1 h
          ) else (
            zpf h u0 35 2 fun h =>
            zrd h (u0 + 17) x50_1 fun x6 =>
            zpf h u0 36 x6 fun h =>
            j88 x50_1 h
          )
        )) fun j50 =>
        LX12_agree_21 F u0 v1 j50 F 0 h
      ) else (
        k94  h
      )
    ) else (
      k94  h
    )
set_option maxHeartbeats 4000000 in
set_option maxRecDepth 100000 in
theorem wX12_agree_2 {p : Program} {l : Launch} {e : Env} {s : State} {m : MethodId} {args : Array Value} {below : List Frame} {meth : Method} {c : Code} {Q : State → Prop} {g : zG} {B : Nat} {o : Int × HF} (F : Nat) (cx : Cx p s m args meth c cX12_agree 3 RX12 none g B) (u0 : Nat) (ru0 : kt u0 = 15) (k94 : HF → RO) (hk94 : ∀  (h : HF) (H : Heap) (locs : List Loc) (ls : Array Slot), Hp g B s h H locs → lv_has ls 3 [] → k94  h = some o → W p l e (rmn 0) s m args below meth c H locs 0 0 Q (F0 m 94 ls [])) : ∀ (n : Nat) (v1 : Int) (h : HF) (H : Heap) (locs : List Loc) (ls : Array Slot), rng v1 → Hp g B s h H locs → lv_has ls 3 [(0, .ref (B + u0)), (1, .int (ii v1))] → LX12_agree_2 F u0 k94 n v1 h = some o → W p l e (rmn 0) s m args below meth c H locs 0 0 Q (F0 m 2 ls []) := by
  intro n
  induction n with
  | zero =>
    intro v1 h H locs ls rv1 hp hl hf
    cases hf
  | succ n ih =>
    intro v1 h H locs ls rv1 hp hl hf
    rw [LX12_agree_2] at hf
    refine lv_iload_n cx.1 cx.2.1 dX12_agree_2 rfl (lv_at hl 1 rfl) ?_
    refine lv_aload_n cx.1 cx.2.1 dX12_agree_3 rfl (lv_at hl 0 rfl) ?_
    refine z_gets cx hp (T := TX12) 12 24 (u0 + 18) rfl zin_12 (by decide) (by decide) ru0 rfl fl_X12_61 dX12_agree_4 ?_
    refine z_iconst cx dX12_agree_7 ?_
    refine z_iald cx hp (zs_12_24 u0 (kt_lt ru0 (by decide)) ru0) (by decide) dX12_agree_8 hf (fun x1 rx1 hf => ?_)
    refine z_icmp_ge cx rv1 rx1 (tgt := 94) dX12_agree_9 (by decide) hf (fun _ hf => ?_) (fun _ hf => ?_)
    · refine lv_aload_n cx.1 cx.2.1 dX12_agree_12 rfl (lv_at hl 0 rfl) ?_
      refine z_geti cx hp (T := TX12) 12 35 rfl zin_12 (by decide) (by decide) ru0 rfl fl_X12_218 dX12_agree_13 hf (fun x2 rx2 hf => ?_)
      refine z_if_ne cx rx2 (tgt := 94) dX12_agree_16 (by decide) hf (fun _ hf => ?_) (fun _ hf => ?_)
      · refine z_iconst cx dX12_agree_19 ?_
        refine lv_istore_n (lv' := [(2, .int (ii 0)), (0, .ref (B + u0)), (1, .int (ii v1))]) cx.1 cx.2.1 dX12_agree_20 rfl hl (by decide) rfl (fun ls hl => ?_)
        refine z_jn hf (fun j => ∀ (x50_1 : Int) (x50_2 : Int) (h : HF) (H : Heap) (locs : List Loc) (ls : Array Slot), rng x50_1 → rng x50_2 → Hp g B s h H locs → lv_has ls 3 [(0, .ref (B + u0)), (1, .int (ii x50_1)), (2, .int (ii x50_2))] → j x50_1 x50_2 h = some o → W p l e (rmn 0) s m args below meth c H locs 0 0 Q (F0 m 50 ls [])) ?_ (fun j50 hj50 hf => ?_)
        · intro x50_1 x50_2 h H locs ls rx50_1 rx50_2 hp hl hf
          refine lv_aload_n cx.1 cx.2.1 dX12_agree_50 rfl (lv_at hl 0 rfl) ?_
          refine z_gets cx hp (T := TX12) 12 20 (u0 + 14) rfl zin_12 (by decide) (by decide) ru0 rfl fl_X12_49 dX12_agree_51 ?_
          refine z_sipush cx (by decide) dX12_agree_54 ?_
          refine lv_iload_n cx.1 cx.2.1 dX12_agree_57 rfl (lv_at hl 2 rfl) ?_
          refine z_iadd cx dX12_agree_58 ?_
          refine z_iald cx hp (zs_12_20 u0 (kt_lt ru0 (by decide)) ru0) (rng_wr _) dX12_agree_59 hf (fun x3 rx3 hf => ?_)
          refine lv_aload_n cx.1 cx.2.1 dX12_agree_60 rfl (lv_at hl 0 rfl) ?_
          refine z_gets cx hp (T := TX12) 12 20 (u0 + 14) rfl zin_12 (by decide) (by decide) ru0 rfl fl_X12_49 dX12_agree_61 ?_
          refine z_sipush cx (by decide) dX12_agree_64 ?_
          refine lv_iload_n cx.1 cx.2.1 dX12_agree_67 rfl (lv_at hl 1 rfl) ?_
          refine z_iadd cx dX12_agree_68 ?_
          refine z_iald cx hp (zs_12_20 u0 (kt_lt ru0 (by decide)) ru0) (rng_wr _) dX12_agree_69 hf (fun x4 rx4 hf => ?_)
          refine z_jn hf (fun j => ∀ (x88_1 : Int) (h : HF) (H : Heap) (locs : List Loc) (ls : Array Slot), rng x88_1 → Hp g B s h H locs → lv_has ls 3 [(0, .ref (B + u0)), (1, .int (ii x88_1))] → j x88_1 h = some o → W p l e (rmn 0) s m args below meth c H locs 0 0 Q (F0 m 88 ls [])) ?_ (fun j88 hj88 hf => ?_)
          · intro x88_1 h H locs ls rx88_1 hp hl hf
            refine z_iinc cx (fun x5 => [(1, .int (ii x5)), (0, .ref (B + u0))]) dX12_agree_88 hl (k := 1) rfl (by decide) (fun _ => rfl) hf (fun x5 rx5 hf ls hl => ?_)
            refine lv_goto (tgt := 2) cx.1 cx.2.1 dX12_agree_91 (by decide) ?_
            exact ih x5 h _ _ ls rx5 hp (lv_sub hl [1, 0] rfl) hf
          refine z_icmp_eq cx rx3 rx4 (tgt := 88) dX12_agree_70 (by decide) hf (fun _ hf => ?_) (fun _ hf => ?_)
          · exact hj88 x50_1 h _ _ ls rx50_1 hp (lv_sub hl [0, 1] rfl) hf
          · refine lv_aload_n cx.1 cx.2.1 dX12_agree_73 rfl (lv_at hl 0 rfl) ?_
            refine z_iconst cx dX12_agree_74 ?_
            refine z_puti cx hp (T := TX12) tyX12 tyX12_ok nmX12 12 35 (by decide) rfl zin_12 (by decide) (by decide) ru0 rfl rfl rfl fl_X12_218 dX12_agree_75 hf (fun h H locs hp hf => ?_)
            refine lv_aload_n cx.1 cx.2.1 dX12_agree_78 rfl (lv_at hl 0 rfl) ?_
            refine lv_aload_n cx.1 cx.2.1 dX12_agree_79 rfl (lv_at hl 0 rfl) ?_
            refine z_gets cx hp (T := TX12) 12 23 (u0 + 17) rfl zin_12 (by decide) (by decide) ru0 rfl fl_X12_58 dX12_agree_80 ?_
            refine lv_iload_n cx.1 cx.2.1 dX12_agree_83 rfl (lv_at hl 1 rfl) ?_
            refine z_iald cx hp (zs_12_23 u0 (kt_lt ru0 (by decide)) ru0) rx50_1 dX12_agree_84 hf (fun x6 rx6 hf => ?_)
            refine z_puti cx hp (T := TX12) tyX12 tyX12_ok nmX12 12 36 rx6 rfl zin_12 (by decide) (by decide) ru0 rfl rfl rfl fl_X12_221 dX12_agree_85 hf (fun h H locs hp hf => ?_)
            exact hj88 x50_1 h _ _ ls rx50_1 hp (lv_sub hl [0, 1] rfl) hf
        exact wX12_agree_21 F cx u0 ru0 v1 rv1 j50 hj50 F 0 h _ _ ls (by decide) hp (lv_sub hl [1, 2, 0] rfl) hf
      · exact hk94  h _ _ ls  hp (lv_sub hl [] rfl) hf
    · exact hk94  h _ _ ls  hp (lv_sub hl [] rfl) hf
def fX12_agree (F : Nat) (a0 : Nat) (h : HF) : RO :=
  zjn (fun  (h : HF) => (
    some (0, h)
  )) fun j94 =>
  LX12_agree_2 F a0 j94 F 0 h
set_option maxHeartbeats 4000000 in
set_option maxRecDepth 100000 in
theorem mX12_agree (F : Nat) (l : Launch) (g : zG) (B : Nat) (h : HF) (a0 : Nat) (ra0 : kt a0 = 15) : CTv l g B yX12_agree cX12_agree 3 0 [.ref (B + a0)] h (fX12_agree F a0 h) := by
  refine z_enterV (by decide) rfl (Nat.le_of_ble_eq_true rfl) ?_
  intro p e s m args below meth c ls o Q cx hp hl hf hQ
  have hl : lv_has ls 3 [(0, .ref (B + a0))] := hl
  unfold fX12_agree at hf
  refine z_iconst cx dX12_agree_0 ?_
  refine lv_istore_n (lv' := [(1, .int (ii 0)), (0, .ref (B + a0))]) cx.1 cx.2.1 dX12_agree_1 rfl hl (by decide) rfl (fun ls hl => ?_)
  refine z_jn hf (fun j => ∀  (h : HF) (H : Heap) (locs : List Loc) (ls : Array Slot), Hp g B s h H locs → lv_has ls 3 [] → j  h = some o → W p l e (rmn 0) s m args below meth c H locs 0 0 Q (F0 m 94 ls [])) ?_ (fun j94 hj94 hf => ?_)
  · intro  h H locs ls  hp hl hf
    rw [hQ]; exact z_vret cx hp dX12_agree_94 hf
  exact wX12_agree_2 F cx a0 ra0 j94 hj94 F 0 h _ _ ls (by decide) hp (lv_sub hl [1, 0] rfl) hf
theorem dX12_laws_0 : decode cX12_laws 0 = .ok (.aload_n 0, 1) := by decide +kernel
theorem dX12_laws_1 : decode cX12_laws 1 = .ok (.iconst 0, 1) := by decide +kernel
theorem dX12_laws_2 : decode cX12_laws 2 = .ok (.putfield 115, 3) := by decide +kernel
theorem dX12_laws_5 : decode cX12_laws 5 = .ok (.aload_n 0, 1) := by decide +kernel
theorem dX12_laws_6 : decode cX12_laws 6 = .ok (.aload_n 0, 1) := by decide +kernel
theorem dX12_laws_7 : decode cX12_laws 7 = .ok (.getfield 119, 3) := by decide +kernel
theorem dX12_laws_10 : decode cX12_laws 10 = .ok (.putfield 209, 3) := by decide +kernel
theorem dX12_laws_13 : decode cX12_laws 13 = .ok (.aload_n 0, 1) := by decide +kernel
theorem dX12_laws_14 : decode cX12_laws 14 = .ok (.iconst 0, 1) := by decide +kernel
theorem dX12_laws_15 : decode cX12_laws 15 = .ok (.putfield 119, 3) := by decide +kernel
theorem dX12_laws_18 : decode cX12_laws 18 = .ok (.aload_n 0, 1) := by decide +kernel
theorem dX12_laws_19 : decode cX12_laws 19 = .ok (.iload_n 1, 1) := by decide +kernel
theorem dX12_laws_20 : decode cX12_laws 20 = .ok (.invokevirtual 247, 3) := by decide +kernel
theorem dX12_laws_23 : decode cX12_laws 23 = .ok (.ifCond .ne 6, 3) := by decide +kernel
theorem dX12_laws_26 : decode cX12_laws 26 = .ok (.bipush (-3), 2) := by decide +kernel
theorem dX12_laws_28 : decode cX12_laws 28 = .ok (.ireturn, 1) := by decide +kernel
theorem dX12_laws_29 : decode cX12_laws 29 = .ok (.aload_n 0, 1) := by decide +kernel
theorem dX12_laws_30 : decode cX12_laws 30 = .ok (.iconst 0, 1) := by decide +kernel
theorem dX12_laws_31 : decode cX12_laws 31 = .ok (.putfield 206, 3) := by decide +kernel
theorem dX12_laws_34 : decode cX12_laws 34 = .ok (.aload_n 0, 1) := by decide +kernel
theorem dX12_laws_35 : decode cX12_laws 35 = .ok (.iconst 0, 1) := by decide +kernel
theorem dX12_laws_36 : decode cX12_laws 36 = .ok (.putfield 218, 3) := by decide +kernel
theorem dX12_laws_39 : decode cX12_laws 39 = .ok (.aload_n 0, 1) := by decide +kernel
theorem dX12_laws_40 : decode cX12_laws 40 = .ok (.getfield 61, 3) := by decide +kernel
theorem dX12_laws_43 : decode cX12_laws 43 = .ok (.iconst 4, 1) := by decide +kernel
theorem dX12_laws_44 : decode cX12_laws 44 = .ok (.iconst 0, 1) := by decide +kernel
theorem dX12_laws_45 : decode cX12_laws 45 = .ok (.iastore, 1) := by decide +kernel
theorem dX12_laws_46 : decode cX12_laws 46 = .ok (.aload_n 0, 1) := by decide +kernel
theorem dX12_laws_47 : decode cX12_laws 47 = .ok (.getfield 70, 3) := by decide +kernel
theorem dX12_laws_50 : decode cX12_laws 50 = .ok (.iconst 4, 1) := by decide +kernel
theorem dX12_laws_51 : decode cX12_laws 51 = .ok (.iconst 0, 1) := by decide +kernel
theorem dX12_laws_52 : decode cX12_laws 52 = .ok (.iastore, 1) := by decide +kernel
theorem dX12_laws_53 : decode cX12_laws 53 = .ok (.aload_n 0, 1) := by decide +kernel
theorem dX12_laws_54 : decode cX12_laws 54 = .ok (.getfield 79, 3) := by decide +kernel
theorem dX12_laws_57 : decode cX12_laws 57 = .ok (.iconst 4, 1) := by decide +kernel
theorem dX12_laws_58 : decode cX12_laws 58 = .ok (.iconst 0, 1) := by decide +kernel
theorem dX12_laws_59 : decode cX12_laws 59 = .ok (.iastore, 1) := by decide +kernel
theorem dX12_laws_60 : decode cX12_laws 60 = .ok (.aload_n 0, 1) := by decide +kernel
theorem dX12_laws_61 : decode cX12_laws 61 = .ok (.invokevirtual 224, 3) := by decide +kernel
theorem dX12_laws_64 : decode cX12_laws 64 = .ok (.aload_n 0, 1) := by decide +kernel
theorem dX12_laws_65 : decode cX12_laws 65 = .ok (.invokevirtual 250, 3) := by decide +kernel
theorem dX12_laws_68 : decode cX12_laws 68 = .ok (.aload_n 0, 1) := by decide +kernel
theorem dX12_laws_69 : decode cX12_laws 69 = .ok (.bipush 59, 2) := by decide +kernel
theorem dX12_laws_71 : decode cX12_laws 71 = .ok (.invokevirtual 227, 3) := by decide +kernel
theorem dX12_laws_74 : decode cX12_laws 74 = .ok (.ifCond .eq 10, 3) := by decide +kernel
theorem dX12_laws_77 : decode cX12_laws 77 = .ok (.aload_n 0, 1) := by decide +kernel
theorem dX12_laws_78 : decode cX12_laws 78 = .ok (.invokevirtual 250, 3) := by decide +kernel
theorem dX12_laws_81 : decode cX12_laws 81 = .ok (.goto (-13), 3) := by decide +kernel
theorem dX12_laws_84 : decode cX12_laws 84 = .ok (.aload_n 0, 1) := by decide +kernel
theorem dX12_laws_85 : decode cX12_laws 85 = .ok (.getfield 218, 3) := by decide +kernel
theorem dX12_laws_88 : decode cX12_laws 88 = .ok (.ifCond .ne 16, 3) := by decide +kernel
theorem dX12_laws_91 : decode cX12_laws 91 = .ok (.aload_n 0, 1) := by decide +kernel
theorem dX12_laws_92 : decode cX12_laws 92 = .ok (.getfield 215, 3) := by decide +kernel
theorem dX12_laws_95 : decode cX12_laws 95 = .ok (.iconst (-1), 1) := by decide +kernel
theorem dX12_laws_96 : decode cX12_laws 96 = .ok (.if_icmp .eq 8, 3) := by decide +kernel
theorem dX12_laws_99 : decode cX12_laws 99 = .ok (.aload_n 0, 1) := by decide +kernel
theorem dX12_laws_100 : decode cX12_laws 100 = .ok (.iconst 1, 1) := by decide +kernel
theorem dX12_laws_101 : decode cX12_laws 101 = .ok (.invokevirtual 230, 3) := by decide +kernel
theorem dX12_laws_104 : decode cX12_laws 104 = .ok (.aload_n 0, 1) := by decide +kernel
theorem dX12_laws_105 : decode cX12_laws 105 = .ok (.invokevirtual 253, 3) := by decide +kernel
theorem dX12_laws_108 : decode cX12_laws 108 = .ok (.aload_n 0, 1) := by decide +kernel
theorem dX12_laws_109 : decode cX12_laws 109 = .ok (.aload_n 0, 1) := by decide +kernel
theorem dX12_laws_110 : decode cX12_laws 110 = .ok (.getfield 218, 3) := by decide +kernel
theorem dX12_laws_113 : decode cX12_laws 113 = .ok (.putfield 190, 3) := by decide +kernel
theorem dX12_laws_116 : decode cX12_laws 116 = .ok (.aload_n 0, 1) := by decide +kernel
theorem dX12_laws_117 : decode cX12_laws 117 = .ok (.getfield 218, 3) := by decide +kernel
theorem dX12_laws_120 : decode cX12_laws 120 = .ok (.ifCond .eq 11, 3) := by decide +kernel
theorem dX12_laws_123 : decode cX12_laws 123 = .ok (.bipush (-100), 2) := by decide +kernel
theorem dX12_laws_125 : decode cX12_laws 125 = .ok (.aload_n 0, 1) := by decide +kernel
theorem dX12_laws_126 : decode cX12_laws 126 = .ok (.getfield 221, 3) := by decide +kernel
theorem dX12_laws_129 : decode cX12_laws 129 = .ok (.isub, 1) := by decide +kernel
theorem dX12_laws_130 : decode cX12_laws 130 = .ok (.ireturn, 1) := by decide +kernel
theorem dX12_laws_131 : decode cX12_laws 131 = .ok (.aload_n 0, 1) := by decide +kernel
theorem dX12_laws_132 : decode cX12_laws 132 = .ok (.getfield 61, 3) := by decide +kernel
theorem dX12_laws_135 : decode cX12_laws 135 = .ok (.iload_n 1, 1) := by decide +kernel
theorem dX12_laws_136 : decode cX12_laws 136 = .ok (.aload_n 0, 1) := by decide +kernel
theorem dX12_laws_137 : decode cX12_laws 137 = .ok (.getfield 61, 3) := by decide +kernel
theorem dX12_laws_140 : decode cX12_laws 140 = .ok (.iconst 4, 1) := by decide +kernel
theorem dX12_laws_141 : decode cX12_laws 141 = .ok (.iaload, 1) := by decide +kernel
theorem dX12_laws_142 : decode cX12_laws 142 = .ok (.iastore, 1) := by decide +kernel
theorem dX12_laws_143 : decode cX12_laws 143 = .ok (.aload_n 0, 1) := by decide +kernel
theorem dX12_laws_144 : decode cX12_laws 144 = .ok (.getfield 70, 3) := by decide +kernel
theorem dX12_laws_147 : decode cX12_laws 147 = .ok (.iload_n 1, 1) := by decide +kernel
theorem dX12_laws_148 : decode cX12_laws 148 = .ok (.aload_n 0, 1) := by decide +kernel
theorem dX12_laws_149 : decode cX12_laws 149 = .ok (.getfield 70, 3) := by decide +kernel
theorem dX12_laws_152 : decode cX12_laws 152 = .ok (.iconst 4, 1) := by decide +kernel
theorem dX12_laws_153 : decode cX12_laws 153 = .ok (.iaload, 1) := by decide +kernel
theorem dX12_laws_154 : decode cX12_laws 154 = .ok (.iastore, 1) := by decide +kernel
theorem dX12_laws_155 : decode cX12_laws 155 = .ok (.aload_n 0, 1) := by decide +kernel
theorem dX12_laws_156 : decode cX12_laws 156 = .ok (.getfield 79, 3) := by decide +kernel
theorem dX12_laws_159 : decode cX12_laws 159 = .ok (.iload_n 1, 1) := by decide +kernel
theorem dX12_laws_160 : decode cX12_laws 160 = .ok (.aload_n 0, 1) := by decide +kernel
theorem dX12_laws_161 : decode cX12_laws 161 = .ok (.getfield 79, 3) := by decide +kernel
theorem dX12_laws_164 : decode cX12_laws 164 = .ok (.iconst 4, 1) := by decide +kernel
theorem dX12_laws_165 : decode cX12_laws 165 = .ok (.iaload, 1) := by decide +kernel
theorem dX12_laws_166 : decode cX12_laws 166 = .ok (.iastore, 1) := by decide +kernel
theorem dX12_laws_167 : decode cX12_laws 167 = .ok (.iconst 0, 1) := by decide +kernel
theorem dX12_laws_168 : decode cX12_laws 168 = .ok (.istore_n 2, 1) := by decide +kernel
theorem dX12_laws_169 : decode cX12_laws 169 = .ok (.iload_n 2, 1) := by decide +kernel
theorem dX12_laws_170 : decode cX12_laws 170 = .ok (.bipush 80, 2) := by decide +kernel
theorem dX12_laws_172 : decode cX12_laws 172 = .ok (.if_icmp .ge 93, 3) := by decide +kernel
theorem dX12_laws_175 : decode cX12_laws 175 = .ok (.aload_n 0, 1) := by decide +kernel
theorem dX12_laws_176 : decode cX12_laws 176 = .ok (.getfield 46, 3) := by decide +kernel
theorem dX12_laws_179 : decode cX12_laws 179 = .ok (.bipush 80, 2) := by decide +kernel
theorem dX12_laws_181 : decode cX12_laws 181 = .ok (.iload_n 1, 1) := by decide +kernel
theorem dX12_laws_182 : decode cX12_laws 182 = .ok (.imul, 1) := by decide +kernel
theorem dX12_laws_183 : decode cX12_laws 183 = .ok (.iload_n 2, 1) := by decide +kernel
theorem dX12_laws_184 : decode cX12_laws 184 = .ok (.iadd, 1) := by decide +kernel
theorem dX12_laws_185 : decode cX12_laws 185 = .ok (.aload_n 0, 1) := by decide +kernel
theorem dX12_laws_186 : decode cX12_laws 186 = .ok (.getfield 46, 3) := by decide +kernel
theorem dX12_laws_189 : decode cX12_laws 189 = .ok (.sipush 320, 3) := by decide +kernel
theorem dX12_laws_192 : decode cX12_laws 192 = .ok (.iload_n 2, 1) := by decide +kernel
theorem dX12_laws_193 : decode cX12_laws 193 = .ok (.iadd, 1) := by decide +kernel
theorem dX12_laws_194 : decode cX12_laws 194 = .ok (.iaload, 1) := by decide +kernel
theorem dX12_laws_195 : decode cX12_laws 195 = .ok (.iastore, 1) := by decide +kernel
theorem dX12_laws_196 : decode cX12_laws 196 = .ok (.aload_n 0, 1) := by decide +kernel
theorem dX12_laws_197 : decode cX12_laws 197 = .ok (.getfield 49, 3) := by decide +kernel
theorem dX12_laws_200 : decode cX12_laws 200 = .ok (.bipush 80, 2) := by decide +kernel
theorem dX12_laws_202 : decode cX12_laws 202 = .ok (.iload_n 1, 1) := by decide +kernel
theorem dX12_laws_203 : decode cX12_laws 203 = .ok (.imul, 1) := by decide +kernel
theorem dX12_laws_204 : decode cX12_laws 204 = .ok (.iload_n 2, 1) := by decide +kernel
theorem dX12_laws_205 : decode cX12_laws 205 = .ok (.iadd, 1) := by decide +kernel
theorem dX12_laws_206 : decode cX12_laws 206 = .ok (.aload_n 0, 1) := by decide +kernel
theorem dX12_laws_207 : decode cX12_laws 207 = .ok (.getfield 49, 3) := by decide +kernel
theorem dX12_laws_210 : decode cX12_laws 210 = .ok (.sipush 320, 3) := by decide +kernel
theorem dX12_laws_213 : decode cX12_laws 213 = .ok (.iload_n 2, 1) := by decide +kernel
theorem dX12_laws_214 : decode cX12_laws 214 = .ok (.iadd, 1) := by decide +kernel
theorem dX12_laws_215 : decode cX12_laws 215 = .ok (.iaload, 1) := by decide +kernel
theorem dX12_laws_216 : decode cX12_laws 216 = .ok (.iastore, 1) := by decide +kernel
theorem dX12_laws_217 : decode cX12_laws 217 = .ok (.aload_n 0, 1) := by decide +kernel
theorem dX12_laws_218 : decode cX12_laws 218 = .ok (.getfield 52, 3) := by decide +kernel
theorem dX12_laws_221 : decode cX12_laws 221 = .ok (.bipush 80, 2) := by decide +kernel
theorem dX12_laws_223 : decode cX12_laws 223 = .ok (.iload_n 1, 1) := by decide +kernel
theorem dX12_laws_224 : decode cX12_laws 224 = .ok (.imul, 1) := by decide +kernel
theorem dX12_laws_225 : decode cX12_laws 225 = .ok (.iload_n 2, 1) := by decide +kernel
theorem dX12_laws_226 : decode cX12_laws 226 = .ok (.iadd, 1) := by decide +kernel
theorem dX12_laws_227 : decode cX12_laws 227 = .ok (.aload_n 0, 1) := by decide +kernel
theorem dX12_laws_228 : decode cX12_laws 228 = .ok (.getfield 52, 3) := by decide +kernel
theorem dX12_laws_231 : decode cX12_laws 231 = .ok (.sipush 320, 3) := by decide +kernel
theorem dX12_laws_234 : decode cX12_laws 234 = .ok (.iload_n 2, 1) := by decide +kernel
theorem dX12_laws_235 : decode cX12_laws 235 = .ok (.iadd, 1) := by decide +kernel
theorem dX12_laws_236 : decode cX12_laws 236 = .ok (.iaload, 1) := by decide +kernel
theorem dX12_laws_237 : decode cX12_laws 237 = .ok (.iastore, 1) := by decide +kernel
theorem dX12_laws_238 : decode cX12_laws 238 = .ok (.aload_n 0, 1) := by decide +kernel
theorem dX12_laws_239 : decode cX12_laws 239 = .ok (.getfield 55, 3) := by decide +kernel
theorem dX12_laws_242 : decode cX12_laws 242 = .ok (.bipush 80, 2) := by decide +kernel
theorem dX12_laws_244 : decode cX12_laws 244 = .ok (.iload_n 1, 1) := by decide +kernel
theorem dX12_laws_245 : decode cX12_laws 245 = .ok (.imul, 1) := by decide +kernel
theorem dX12_laws_246 : decode cX12_laws 246 = .ok (.iload_n 2, 1) := by decide +kernel
theorem dX12_laws_247 : decode cX12_laws 247 = .ok (.iadd, 1) := by decide +kernel
theorem dX12_laws_248 : decode cX12_laws 248 = .ok (.aload_n 0, 1) := by decide +kernel
theorem dX12_laws_249 : decode cX12_laws 249 = .ok (.getfield 55, 3) := by decide +kernel
theorem dX12_laws_252 : decode cX12_laws 252 = .ok (.sipush 320, 3) := by decide +kernel
theorem dX12_laws_255 : decode cX12_laws 255 = .ok (.iload_n 2, 1) := by decide +kernel
theorem dX12_laws_256 : decode cX12_laws 256 = .ok (.iadd, 1) := by decide +kernel
theorem dX12_laws_257 : decode cX12_laws 257 = .ok (.iaload, 1) := by decide +kernel
theorem dX12_laws_258 : decode cX12_laws 258 = .ok (.iastore, 1) := by decide +kernel
theorem dX12_laws_259 : decode cX12_laws 259 = .ok (.iinc 2 1, 3) := by decide +kernel
theorem dX12_laws_262 : decode cX12_laws 262 = .ok (.goto (-93), 3) := by decide +kernel
theorem dX12_laws_265 : decode cX12_laws 265 = .ok (.iconst 0, 1) := by decide +kernel
theorem dX12_laws_266 : decode cX12_laws 266 = .ok (.istore_n 2, 1) := by decide +kernel
theorem dX12_laws_267 : decode cX12_laws 267 = .ok (.iload_n 2, 1) := by decide +kernel
theorem dX12_laws_268 : decode cX12_laws 268 = .ok (.bipush 40, 2) := by decide +kernel
theorem dX12_laws_270 : decode cX12_laws 270 = .ok (.if_icmp .ge 51, 3) := by decide +kernel
theorem dX12_laws_273 : decode cX12_laws 273 = .ok (.aload_n 0, 1) := by decide +kernel
theorem dX12_laws_274 : decode cX12_laws 274 = .ok (.getfield 64, 3) := by decide +kernel
theorem dX12_laws_277 : decode cX12_laws 277 = .ok (.bipush 40, 2) := by decide +kernel
theorem dX12_laws_279 : decode cX12_laws 279 = .ok (.iload_n 1, 1) := by decide +kernel
theorem dX12_laws_280 : decode cX12_laws 280 = .ok (.imul, 1) := by decide +kernel
theorem dX12_laws_281 : decode cX12_laws 281 = .ok (.iload_n 2, 1) := by decide +kernel
theorem dX12_laws_282 : decode cX12_laws 282 = .ok (.iadd, 1) := by decide +kernel
theorem dX12_laws_283 : decode cX12_laws 283 = .ok (.aload_n 0, 1) := by decide +kernel
theorem dX12_laws_284 : decode cX12_laws 284 = .ok (.getfield 64, 3) := by decide +kernel
theorem dX12_laws_287 : decode cX12_laws 287 = .ok (.sipush 160, 3) := by decide +kernel
theorem dX12_laws_290 : decode cX12_laws 290 = .ok (.iload_n 2, 1) := by decide +kernel
theorem dX12_laws_291 : decode cX12_laws 291 = .ok (.iadd, 1) := by decide +kernel
theorem dX12_laws_292 : decode cX12_laws 292 = .ok (.iaload, 1) := by decide +kernel
theorem dX12_laws_293 : decode cX12_laws 293 = .ok (.iastore, 1) := by decide +kernel
theorem dX12_laws_294 : decode cX12_laws 294 = .ok (.aload_n 0, 1) := by decide +kernel
theorem dX12_laws_295 : decode cX12_laws 295 = .ok (.getfield 67, 3) := by decide +kernel
theorem dX12_laws_298 : decode cX12_laws 298 = .ok (.bipush 40, 2) := by decide +kernel
theorem dX12_laws_300 : decode cX12_laws 300 = .ok (.iload_n 1, 1) := by decide +kernel
theorem dX12_laws_301 : decode cX12_laws 301 = .ok (.imul, 1) := by decide +kernel
theorem dX12_laws_302 : decode cX12_laws 302 = .ok (.iload_n 2, 1) := by decide +kernel
theorem dX12_laws_303 : decode cX12_laws 303 = .ok (.iadd, 1) := by decide +kernel
theorem dX12_laws_304 : decode cX12_laws 304 = .ok (.aload_n 0, 1) := by decide +kernel
theorem dX12_laws_305 : decode cX12_laws 305 = .ok (.getfield 67, 3) := by decide +kernel
theorem dX12_laws_308 : decode cX12_laws 308 = .ok (.sipush 160, 3) := by decide +kernel
theorem dX12_laws_311 : decode cX12_laws 311 = .ok (.iload_n 2, 1) := by decide +kernel
theorem dX12_laws_312 : decode cX12_laws 312 = .ok (.iadd, 1) := by decide +kernel
theorem dX12_laws_313 : decode cX12_laws 313 = .ok (.iaload, 1) := by decide +kernel
theorem dX12_laws_314 : decode cX12_laws 314 = .ok (.iastore, 1) := by decide +kernel
theorem dX12_laws_315 : decode cX12_laws 315 = .ok (.iinc 2 1, 3) := by decide +kernel
theorem dX12_laws_318 : decode cX12_laws 318 = .ok (.goto (-51), 3) := by decide +kernel
theorem dX12_laws_321 : decode cX12_laws 321 = .ok (.iconst 0, 1) := by decide +kernel
theorem dX12_laws_322 : decode cX12_laws 322 = .ok (.istore_n 2, 1) := by decide +kernel
theorem dX12_laws_323 : decode cX12_laws 323 = .ok (.iload_n 2, 1) := by decide +kernel
theorem dX12_laws_324 : decode cX12_laws 324 = .ok (.bipush 7, 2) := by decide +kernel
theorem dX12_laws_326 : decode cX12_laws 326 = .ok (.if_icmp .ge 49, 3) := by decide +kernel
theorem dX12_laws_329 : decode cX12_laws 329 = .ok (.aload_n 0, 1) := by decide +kernel
theorem dX12_laws_330 : decode cX12_laws 330 = .ok (.getfield 73, 3) := by decide +kernel
theorem dX12_laws_333 : decode cX12_laws 333 = .ok (.bipush 7, 2) := by decide +kernel
theorem dX12_laws_335 : decode cX12_laws 335 = .ok (.iload_n 1, 1) := by decide +kernel
theorem dX12_laws_336 : decode cX12_laws 336 = .ok (.imul, 1) := by decide +kernel
theorem dX12_laws_337 : decode cX12_laws 337 = .ok (.iload_n 2, 1) := by decide +kernel
theorem dX12_laws_338 : decode cX12_laws 338 = .ok (.iadd, 1) := by decide +kernel
theorem dX12_laws_339 : decode cX12_laws 339 = .ok (.aload_n 0, 1) := by decide +kernel
theorem dX12_laws_340 : decode cX12_laws 340 = .ok (.getfield 73, 3) := by decide +kernel
theorem dX12_laws_343 : decode cX12_laws 343 = .ok (.bipush 28, 2) := by decide +kernel
theorem dX12_laws_345 : decode cX12_laws 345 = .ok (.iload_n 2, 1) := by decide +kernel
theorem dX12_laws_346 : decode cX12_laws 346 = .ok (.iadd, 1) := by decide +kernel
theorem dX12_laws_347 : decode cX12_laws 347 = .ok (.iaload, 1) := by decide +kernel
theorem dX12_laws_348 : decode cX12_laws 348 = .ok (.iastore, 1) := by decide +kernel
theorem dX12_laws_349 : decode cX12_laws 349 = .ok (.aload_n 0, 1) := by decide +kernel
theorem dX12_laws_350 : decode cX12_laws 350 = .ok (.getfield 76, 3) := by decide +kernel
theorem dX12_laws_353 : decode cX12_laws 353 = .ok (.bipush 7, 2) := by decide +kernel
theorem dX12_laws_355 : decode cX12_laws 355 = .ok (.iload_n 1, 1) := by decide +kernel
theorem dX12_laws_356 : decode cX12_laws 356 = .ok (.imul, 1) := by decide +kernel
theorem dX12_laws_357 : decode cX12_laws 357 = .ok (.iload_n 2, 1) := by decide +kernel
theorem dX12_laws_358 : decode cX12_laws 358 = .ok (.iadd, 1) := by decide +kernel
theorem dX12_laws_359 : decode cX12_laws 359 = .ok (.aload_n 0, 1) := by decide +kernel
theorem dX12_laws_360 : decode cX12_laws 360 = .ok (.getfield 76, 3) := by decide +kernel
theorem dX12_laws_363 : decode cX12_laws 363 = .ok (.bipush 28, 2) := by decide +kernel
theorem dX12_laws_365 : decode cX12_laws 365 = .ok (.iload_n 2, 1) := by decide +kernel
theorem dX12_laws_366 : decode cX12_laws 366 = .ok (.iadd, 1) := by decide +kernel
theorem dX12_laws_367 : decode cX12_laws 367 = .ok (.iaload, 1) := by decide +kernel
theorem dX12_laws_368 : decode cX12_laws 368 = .ok (.iastore, 1) := by decide +kernel
theorem dX12_laws_369 : decode cX12_laws 369 = .ok (.iinc 2 1, 3) := by decide +kernel
theorem dX12_laws_372 : decode cX12_laws 372 = .ok (.goto (-49), 3) := by decide +kernel
theorem dX12_laws_375 : decode cX12_laws 375 = .ok (.aload_n 0, 1) := by decide +kernel
theorem dX12_laws_376 : decode cX12_laws 376 = .ok (.getfield 79, 3) := by decide +kernel
theorem dX12_laws_379 : decode cX12_laws 379 = .ok (.iload_n 1, 1) := by decide +kernel
theorem dX12_laws_380 : decode cX12_laws 380 = .ok (.iaload, 1) := by decide +kernel
theorem dX12_laws_381 : decode cX12_laws 381 = .ok (.ireturn, 1) := by decide +kernel
def LX12_laws_323 (F : Nat) (u0 : Nat) (u1 : Int) (k375 : HF → RO) : Nat → Int → HF → RO
  | 0, _, _ => none
  | n + 1, v2, h =>
    if v2 < 7 then (
      zrd h (u0 + 22) (wr (28 + v2)) fun x13 =>
      zwr h (u0 + 22) (wr ((wr (7 * u1)) + v2)) x13 fun h =>
      zrd h (u0 + 23) (wr (28 + v2)) fun x14 =>
      zwr h (u0 + 23) (wr ((wr (7 * u1)) + v2)) x14 fun h =>
      zlet (wr (v2 + 1)) fun x15 =>
      LX12_laws_323 F u0 u1 k375 n x15 h
    ) else (
      k375  h
    )
set_option maxHeartbeats 4000000 in
set_option maxRecDepth 100000 in
theorem wX12_laws_323 {p : Program} {l : Launch} {e : Env} {s : State} {m : MethodId} {args : Array Value} {below : List Frame} {meth : Method} {c : Code} {Q : State → Prop} {g : zG} {B : Nat} {o : Int × HF} (F : Nat) (cx : Cx p s m args meth c cX12_laws 3 RX12 (some .int) g B) (u0 : Nat) (ru0 : kt u0 = 15) (u1 : Int) (ru1 : rng u1) (k375 : HF → RO) (hk375 : ∀  (h : HF) (H : Heap) (locs : List Loc) (ls : Array Slot), Hp g B s h H locs → lv_has ls 3 [(0, .ref (B + u0)), (1, .int (ii u1))] → k375  h = some o → W p l e (rmn 16) s m args below meth c H locs 0 0 Q (F0 m 375 ls [])) : ∀ (n : Nat) (v2 : Int) (h : HF) (H : Heap) (locs : List Loc) (ls : Array Slot), rng v2 → Hp g B s h H locs → lv_has ls 3 [(0, .ref (B + u0)), (1, .int (ii u1)), (2, .int (ii v2))] → LX12_laws_323 F u0 u1 k375 n v2 h = some o → W p l e (rmn 16) s m args below meth c H locs 0 0 Q (F0 m 323 ls []) := by
  intro n
  induction n with
  | zero =>
    intro v2 h H locs ls rv2 hp hl hf
    cases hf
  | succ n ih =>
    intro v2 h H locs ls rv2 hp hl hf
    rw [LX12_laws_323] at hf
    refine lv_iload_n cx.1 cx.2.1 dX12_laws_323 rfl (lv_at hl 2 rfl) ?_
    refine z_bipush cx (by decide) dX12_laws_324 ?_
    refine z_icmp_ge cx rv2 (by decide) (tgt := 375) dX12_laws_326 (by decide) hf (fun _ hf => ?_) (fun _ hf => ?_)
    · refine lv_aload_n cx.1 cx.2.1 dX12_laws_329 rfl (lv_at hl 0 rfl) ?_
      refine z_gets cx hp (T := TX12) 12 28 (u0 + 22) rfl zin_12 (by decide) (by decide) ru0 rfl fl_X12_73 dX12_laws_330 ?_
      refine z_bipush cx (by decide) dX12_laws_333 ?_
      refine lv_iload_n cx.1 cx.2.1 dX12_laws_335 rfl (lv_at hl 1 rfl) ?_
      refine z_imul cx dX12_laws_336 ?_
      refine lv_iload_n cx.1 cx.2.1 dX12_laws_337 rfl (lv_at hl 2 rfl) ?_
      refine z_iadd cx dX12_laws_338 ?_
      refine lv_aload_n cx.1 cx.2.1 dX12_laws_339 rfl (lv_at hl 0 rfl) ?_
      refine z_gets cx hp (T := TX12) 12 28 (u0 + 22) rfl zin_12 (by decide) (by decide) ru0 rfl fl_X12_73 dX12_laws_340 ?_
      refine z_bipush cx (by decide) dX12_laws_343 ?_
      refine lv_iload_n cx.1 cx.2.1 dX12_laws_345 rfl (lv_at hl 2 rfl) ?_
      refine z_iadd cx dX12_laws_346 ?_
      refine z_iald cx hp (zs_12_28 u0 (kt_lt ru0 (by decide)) ru0) (rng_wr _) dX12_laws_347 hf (fun x13 rx13 hf => ?_)
      refine z_iast cx hp (zs_12_28 u0 (kt_lt ru0 (by decide)) ru0) (rng_wr _) rx13 dX12_laws_348 hf (fun h H locs hp hf => ?_)
      refine lv_aload_n cx.1 cx.2.1 dX12_laws_349 rfl (lv_at hl 0 rfl) ?_
      refine z_gets cx hp (T := TX12) 12 29 (u0 + 23) rfl zin_12 (by decide) (by decide) ru0 rfl fl_X12_76 dX12_laws_350 ?_
      refine z_bipush cx (by decide) dX12_laws_353 ?_
      refine lv_iload_n cx.1 cx.2.1 dX12_laws_355 rfl (lv_at hl 1 rfl) ?_
      refine z_imul cx dX12_laws_356 ?_
      refine lv_iload_n cx.1 cx.2.1 dX12_laws_357 rfl (lv_at hl 2 rfl) ?_
      refine z_iadd cx dX12_laws_358 ?_
      refine lv_aload_n cx.1 cx.2.1 dX12_laws_359 rfl (lv_at hl 0 rfl) ?_
      refine z_gets cx hp (T := TX12) 12 29 (u0 + 23) rfl zin_12 (by decide) (by decide) ru0 rfl fl_X12_76 dX12_laws_360 ?_
      refine z_bipush cx (by decide) dX12_laws_363 ?_
      refine lv_iload_n cx.1 cx.2.1 dX12_laws_365 rfl (lv_at hl 2 rfl) ?_
      refine z_iadd cx dX12_laws_366 ?_
      refine z_iald cx hp (zs_12_29 u0 (kt_lt ru0 (by decide)) ru0) (rng_wr _) dX12_laws_367 hf (fun x14 rx14 hf => ?_)
      refine z_iast cx hp (zs_12_29 u0 (kt_lt ru0 (by decide)) ru0) (rng_wr _) rx14 dX12_laws_368 hf (fun h H locs hp hf => ?_)
      refine z_iinc cx (fun x15 => [(2, .int (ii x15)), (0, .ref (B + u0)), (1, .int (ii u1))]) dX12_laws_369 hl (k := 2) rfl (by decide) (fun _ => rfl) hf (fun x15 rx15 hf ls hl => ?_)
      refine lv_goto (tgt := 323) cx.1 cx.2.1 dX12_laws_372 (by decide) ?_
      exact ih x15 h _ _ ls rx15 hp (lv_sub hl [1, 2, 0] rfl) hf
    · exact hk375  h _ _ ls  hp (lv_sub hl [0, 1] rfl) hf
def LX12_laws_267 (F : Nat) (u0 : Nat) (u1 : Int) (k321 : HF → RO) : Nat → Int → HF → RO
  | 0, _, _ => none
  | n + 1, v2, h =>
    if v2 < 40 then (
      zrd h (u0 + 19) (wr (160 + v2)) fun x16 =>
      zwr h (u0 + 19) (wr ((wr (40 * u1)) + v2)) x16 fun h =>
      zrd h (u0 + 20) (wr (160 + v2)) fun x17 =>
      zwr h (u0 + 20) (wr ((wr (40 * u1)) + v2)) x17 fun h =>
      zlet (wr (v2 + 1)) fun x18 =>
      LX12_laws_267 F u0 u1 k321 n x18 h
    ) else (
      k321  h
    )
set_option maxHeartbeats 4000000 in
set_option maxRecDepth 100000 in
theorem wX12_laws_267 {p : Program} {l : Launch} {e : Env} {s : State} {m : MethodId} {args : Array Value} {below : List Frame} {meth : Method} {c : Code} {Q : State → Prop} {g : zG} {B : Nat} {o : Int × HF} (F : Nat) (cx : Cx p s m args meth c cX12_laws 3 RX12 (some .int) g B) (u0 : Nat) (ru0 : kt u0 = 15) (u1 : Int) (ru1 : rng u1) (k321 : HF → RO) (hk321 : ∀  (h : HF) (H : Heap) (locs : List Loc) (ls : Array Slot), Hp g B s h H locs → lv_has ls 3 [(0, .ref (B + u0)), (1, .int (ii u1))] → k321  h = some o → W p l e (rmn 16) s m args below meth c H locs 0 0 Q (F0 m 321 ls [])) : ∀ (n : Nat) (v2 : Int) (h : HF) (H : Heap) (locs : List Loc) (ls : Array Slot), rng v2 → Hp g B s h H locs → lv_has ls 3 [(0, .ref (B + u0)), (1, .int (ii u1)), (2, .int (ii v2))] → LX12_laws_267 F u0 u1 k321 n v2 h = some o → W p l e (rmn 16) s m args below meth c H locs 0 0 Q (F0 m 267 ls []) := by
  intro n
  induction n with
  | zero =>
    intro v2 h H locs ls rv2 hp hl hf
    cases hf
  | succ n ih =>
    intro v2 h H locs ls rv2 hp hl hf
    rw [LX12_laws_267] at hf
    refine lv_iload_n cx.1 cx.2.1 dX12_laws_267 rfl (lv_at hl 2 rfl) ?_
    refine z_bipush cx (by decide) dX12_laws_268 ?_
    refine z_icmp_ge cx rv2 (by decide) (tgt := 321) dX12_laws_270 (by decide) hf (fun _ hf => ?_) (fun _ hf => ?_)
    · refine lv_aload_n cx.1 cx.2.1 dX12_laws_273 rfl (lv_at hl 0 rfl) ?_
      refine z_gets cx hp (T := TX12) 12 25 (u0 + 19) rfl zin_12 (by decide) (by decide) ru0 rfl fl_X12_64 dX12_laws_274 ?_
      refine z_bipush cx (by decide) dX12_laws_277 ?_
      refine lv_iload_n cx.1 cx.2.1 dX12_laws_279 rfl (lv_at hl 1 rfl) ?_
      refine z_imul cx dX12_laws_280 ?_
      refine lv_iload_n cx.1 cx.2.1 dX12_laws_281 rfl (lv_at hl 2 rfl) ?_
      refine z_iadd cx dX12_laws_282 ?_
      refine lv_aload_n cx.1 cx.2.1 dX12_laws_283 rfl (lv_at hl 0 rfl) ?_
      refine z_gets cx hp (T := TX12) 12 25 (u0 + 19) rfl zin_12 (by decide) (by decide) ru0 rfl fl_X12_64 dX12_laws_284 ?_
      refine z_sipush cx (by decide) dX12_laws_287 ?_
      refine lv_iload_n cx.1 cx.2.1 dX12_laws_290 rfl (lv_at hl 2 rfl) ?_
      refine z_iadd cx dX12_laws_291 ?_
      refine z_iald cx hp (zs_12_25 u0 (kt_lt ru0 (by decide)) ru0) (rng_wr _) dX12_laws_292 hf (fun x16 rx16 hf => ?_)
      refine z_iast cx hp (zs_12_25 u0 (kt_lt ru0 (by decide)) ru0) (rng_wr _) rx16 dX12_laws_293 hf (fun h H locs hp hf => ?_)
      refine lv_aload_n cx.1 cx.2.1 dX12_laws_294 rfl (lv_at hl 0 rfl) ?_
      refine z_gets cx hp (T := TX12) 12 26 (u0 + 20) rfl zin_12 (by decide) (by decide) ru0 rfl fl_X12_67 dX12_laws_295 ?_
      refine z_bipush cx (by decide) dX12_laws_298 ?_
      refine lv_iload_n cx.1 cx.2.1 dX12_laws_300 rfl (lv_at hl 1 rfl) ?_
      refine z_imul cx dX12_laws_301 ?_
      refine lv_iload_n cx.1 cx.2.1 dX12_laws_302 rfl (lv_at hl 2 rfl) ?_
      refine z_iadd cx dX12_laws_303 ?_
      refine lv_aload_n cx.1 cx.2.1 dX12_laws_304 rfl (lv_at hl 0 rfl) ?_
      refine z_gets cx hp (T := TX12) 12 26 (u0 + 20) rfl zin_12 (by decide) (by decide) ru0 rfl fl_X12_67 dX12_laws_305 ?_
      refine z_sipush cx (by decide) dX12_laws_308 ?_
      refine lv_iload_n cx.1 cx.2.1 dX12_laws_311 rfl (lv_at hl 2 rfl) ?_
      refine z_iadd cx dX12_laws_312 ?_
      refine z_iald cx hp (zs_12_26 u0 (kt_lt ru0 (by decide)) ru0) (rng_wr _) dX12_laws_313 hf (fun x17 rx17 hf => ?_)
      refine z_iast cx hp (zs_12_26 u0 (kt_lt ru0 (by decide)) ru0) (rng_wr _) rx17 dX12_laws_314 hf (fun h H locs hp hf => ?_)
      refine z_iinc cx (fun x18 => [(2, .int (ii x18)), (0, .ref (B + u0)), (1, .int (ii u1))]) dX12_laws_315 hl (k := 2) rfl (by decide) (fun _ => rfl) hf (fun x18 rx18 hf ls hl => ?_)
      refine lv_goto (tgt := 267) cx.1 cx.2.1 dX12_laws_318 (by decide) ?_
      exact ih x18 h _ _ ls rx18 hp (lv_sub hl [1, 2, 0] rfl) hf
    · exact hk321  h _ _ ls  hp (lv_sub hl [0, 1] rfl) hf
def LX12_laws_169 (F : Nat) (u0 : Nat) (u1 : Int) (k265 : HF → RO) : Nat → Int → HF → RO
  | 0, _, _ => none
  | n + 1, v2, h =>
    if v2 < 80 then (
      zrd h (u0 + 13) (wr (320 + v2)) fun x19 =>
      zwr h (u0 + 13) (wr ((wr (80 * u1)) + v2)) x19 fun h =>
      zrd h (u0 + 14) (wr (320 + v2)) fun x20 =>
      zwr h (u0 + 14) (wr ((wr (80 * u1)) + v2)) x20 fun h =>
      zrd h (u0 + 15) (wr (320 + v2)) fun x21 =>
      zwr h (u0 + 15) (wr ((wr (80 * u1)) + v2)) x21 fun h =>
      zrd h (u0 + 16) (wr (320 + v2)) fun x22 =>
      zwr h (u0 + 16) (wr ((wr (80 * u1)) + v2)) x22 fun h =>
      zlet (wr (v2 + 1)) fun x23 =>
      LX12_laws_169 F u0 u1 k265 n x23 h
    ) else (
      k265  h
    )
set_option maxHeartbeats 4000000 in
set_option maxRecDepth 100000 in
theorem wX12_laws_169 {p : Program} {l : Launch} {e : Env} {s : State} {m : MethodId} {args : Array Value} {below : List Frame} {meth : Method} {c : Code} {Q : State → Prop} {g : zG} {B : Nat} {o : Int × HF} (F : Nat) (cx : Cx p s m args meth c cX12_laws 3 RX12 (some .int) g B) (u0 : Nat) (ru0 : kt u0 = 15) (u1 : Int) (ru1 : rng u1) (k265 : HF → RO) (hk265 : ∀  (h : HF) (H : Heap) (locs : List Loc) (ls : Array Slot), Hp g B s h H locs → lv_has ls 3 [(0, .ref (B + u0)), (1, .int (ii u1))] → k265  h = some o → W p l e (rmn 16) s m args below meth c H locs 0 0 Q (F0 m 265 ls [])) : ∀ (n : Nat) (v2 : Int) (h : HF) (H : Heap) (locs : List Loc) (ls : Array Slot), rng v2 → Hp g B s h H locs → lv_has ls 3 [(0, .ref (B + u0)), (1, .int (ii u1)), (2, .int (ii v2))] → LX12_laws_169 F u0 u1 k265 n v2 h = some o → W p l e (rmn 16) s m args below meth c H locs 0 0 Q (F0 m 169 ls []) := by
  intro n
  induction n with
  | zero =>
    intro v2 h H locs ls rv2 hp hl hf
    cases hf
  | succ n ih =>
    intro v2 h H locs ls rv2 hp hl hf
    rw [LX12_laws_169] at hf
    refine lv_iload_n cx.1 cx.2.1 dX12_laws_169 rfl (lv_at hl 2 rfl) ?_
    refine z_bipush cx (by decide) dX12_laws_170 ?_
    refine z_icmp_ge cx rv2 (by decide) (tgt := 265) dX12_laws_172 (by decide) hf (fun _ hf => ?_) (fun _ hf => ?_)
    · refine lv_aload_n cx.1 cx.2.1 dX12_laws_175 rfl (lv_at hl 0 rfl) ?_
      refine z_gets cx hp (T := TX12) 12 19 (u0 + 13) rfl zin_12 (by decide) (by decide) ru0 rfl fl_X12_46 dX12_laws_176 ?_
      refine z_bipush cx (by decide) dX12_laws_179 ?_
      refine lv_iload_n cx.1 cx.2.1 dX12_laws_181 rfl (lv_at hl 1 rfl) ?_
      refine z_imul cx dX12_laws_182 ?_
      refine lv_iload_n cx.1 cx.2.1 dX12_laws_183 rfl (lv_at hl 2 rfl) ?_
      refine z_iadd cx dX12_laws_184 ?_
      refine lv_aload_n cx.1 cx.2.1 dX12_laws_185 rfl (lv_at hl 0 rfl) ?_
      refine z_gets cx hp (T := TX12) 12 19 (u0 + 13) rfl zin_12 (by decide) (by decide) ru0 rfl fl_X12_46 dX12_laws_186 ?_
      refine z_sipush cx (by decide) dX12_laws_189 ?_
      refine lv_iload_n cx.1 cx.2.1 dX12_laws_192 rfl (lv_at hl 2 rfl) ?_
      refine z_iadd cx dX12_laws_193 ?_
      refine z_iald cx hp (zs_12_19 u0 (kt_lt ru0 (by decide)) ru0) (rng_wr _) dX12_laws_194 hf (fun x19 rx19 hf => ?_)
      refine z_iast cx hp (zs_12_19 u0 (kt_lt ru0 (by decide)) ru0) (rng_wr _) rx19 dX12_laws_195 hf (fun h H locs hp hf => ?_)
      refine lv_aload_n cx.1 cx.2.1 dX12_laws_196 rfl (lv_at hl 0 rfl) ?_
      refine z_gets cx hp (T := TX12) 12 20 (u0 + 14) rfl zin_12 (by decide) (by decide) ru0 rfl fl_X12_49 dX12_laws_197 ?_
      refine z_bipush cx (by decide) dX12_laws_200 ?_
      refine lv_iload_n cx.1 cx.2.1 dX12_laws_202 rfl (lv_at hl 1 rfl) ?_
      refine z_imul cx dX12_laws_203 ?_
      refine lv_iload_n cx.1 cx.2.1 dX12_laws_204 rfl (lv_at hl 2 rfl) ?_
      refine z_iadd cx dX12_laws_205 ?_
      refine lv_aload_n cx.1 cx.2.1 dX12_laws_206 rfl (lv_at hl 0 rfl) ?_
      refine z_gets cx hp (T := TX12) 12 20 (u0 + 14) rfl zin_12 (by decide) (by decide) ru0 rfl fl_X12_49 dX12_laws_207 ?_
      refine z_sipush cx (by decide) dX12_laws_210 ?_
      refine lv_iload_n cx.1 cx.2.1 dX12_laws_213 rfl (lv_at hl 2 rfl) ?_
      refine z_iadd cx dX12_laws_214 ?_
      refine z_iald cx hp (zs_12_20 u0 (kt_lt ru0 (by decide)) ru0) (rng_wr _) dX12_laws_215 hf (fun x20 rx20 hf => ?_)
      refine z_iast cx hp (zs_12_20 u0 (kt_lt ru0 (by decide)) ru0) (rng_wr _) rx20 dX12_laws_216 hf (fun h H locs hp hf => ?_)
      refine lv_aload_n cx.1 cx.2.1 dX12_laws_217 rfl (lv_at hl 0 rfl) ?_
      refine z_gets cx hp (T := TX12) 12 21 (u0 + 15) rfl zin_12 (by decide) (by decide) ru0 rfl fl_X12_52 dX12_laws_218 ?_
      refine z_bipush cx (by decide) dX12_laws_221 ?_
      refine lv_iload_n cx.1 cx.2.1 dX12_laws_223 rfl (lv_at hl 1 rfl) ?_
      refine z_imul cx dX12_laws_224 ?_
      refine lv_iload_n cx.1 cx.2.1 dX12_laws_225 rfl (lv_at hl 2 rfl) ?_
      refine z_iadd cx dX12_laws_226 ?_
      refine lv_aload_n cx.1 cx.2.1 dX12_laws_227 rfl (lv_at hl 0 rfl) ?_
      refine z_gets cx hp (T := TX12) 12 21 (u0 + 15) rfl zin_12 (by decide) (by decide) ru0 rfl fl_X12_52 dX12_laws_228 ?_
      refine z_sipush cx (by decide) dX12_laws_231 ?_
      refine lv_iload_n cx.1 cx.2.1 dX12_laws_234 rfl (lv_at hl 2 rfl) ?_
      refine z_iadd cx dX12_laws_235 ?_
      refine z_iald cx hp (zs_12_21 u0 (kt_lt ru0 (by decide)) ru0) (rng_wr _) dX12_laws_236 hf (fun x21 rx21 hf => ?_)
      refine z_iast cx hp (zs_12_21 u0 (kt_lt ru0 (by decide)) ru0) (rng_wr _) rx21 dX12_laws_237 hf (fun h H locs hp hf => ?_)
      refine lv_aload_n cx.1 cx.2.1 dX12_laws_238 rfl (lv_at hl 0 rfl) ?_
      refine z_gets cx hp (T := TX12) 12 22 (u0 + 16) rfl zin_12 (by decide) (by decide) ru0 rfl fl_X12_55 dX12_laws_239 ?_
      refine z_bipush cx (by decide) dX12_laws_242 ?_
      refine lv_iload_n cx.1 cx.2.1 dX12_laws_244 rfl (lv_at hl 1 rfl) ?_
      refine z_imul cx dX12_laws_245 ?_
      refine lv_iload_n cx.1 cx.2.1 dX12_laws_246 rfl (lv_at hl 2 rfl) ?_
      refine z_iadd cx dX12_laws_247 ?_
      refine lv_aload_n cx.1 cx.2.1 dX12_laws_248 rfl (lv_at hl 0 rfl) ?_
      refine z_gets cx hp (T := TX12) 12 22 (u0 + 16) rfl zin_12 (by decide) (by decide) ru0 rfl fl_X12_55 dX12_laws_249 ?_
      refine z_sipush cx (by decide) dX12_laws_252 ?_
      refine lv_iload_n cx.1 cx.2.1 dX12_laws_255 rfl (lv_at hl 2 rfl) ?_
      refine z_iadd cx dX12_laws_256 ?_
      refine z_iald cx hp (zs_12_22 u0 (kt_lt ru0 (by decide)) ru0) (rng_wr _) dX12_laws_257 hf (fun x22 rx22 hf => ?_)
      refine z_iast cx hp (zs_12_22 u0 (kt_lt ru0 (by decide)) ru0) (rng_wr _) rx22 dX12_laws_258 hf (fun h H locs hp hf => ?_)
      refine z_iinc cx (fun x23 => [(2, .int (ii x23)), (0, .ref (B + u0)), (1, .int (ii u1))]) dX12_laws_259 hl (k := 2) rfl (by decide) (fun _ => rfl) hf (fun x23 rx23 hf ls hl => ?_)
      refine lv_goto (tgt := 169) cx.1 cx.2.1 dX12_laws_262 (by decide) ?_
      exact ih x23 h _ _ ls rx23 hp (lv_sub hl [1, 2, 0] rfl) hf
    · exact hk265  h _ _ ls  hp (lv_sub hl [0, 1] rfl) hf
def LX12_laws_68 (F : Nat) (u0 : Nat) (u1 : Int) (k84 : HF → RO) : Nat → HF → RO
  | 0, _ => none
  | n + 1, h =>
    zbd (fX12_takes F u0 59 h) fun r27 h =>
    if r27 = 0 then (
      k84  h
    ) else (
      zbd (fX12_law F u0 h) fun _ h =>
      LX12_laws_68 F u0 u1 k84 n  h
    )
set_option maxHeartbeats 4000000 in
set_option maxRecDepth 100000 in
theorem wX12_laws_68 {p : Program} {l : Launch} {e : Env} {s : State} {m : MethodId} {args : Array Value} {below : List Frame} {meth : Method} {c : Code} {Q : State → Prop} {g : zG} {B : Nat} {o : Int × HF} (F : Nat) (cx : Cx p s m args meth c cX12_laws 3 RX12 (some .int) g B) (u0 : Nat) (ru0 : kt u0 = 15) (u1 : Int) (ru1 : rng u1) (k84 : HF → RO) (hk84 : ∀  (h : HF) (H : Heap) (locs : List Loc) (ls : Array Slot), Hp g B s h H locs → lv_has ls 3 [(0, .ref (B + u0)), (1, .int (ii u1))] → k84  h = some o → W p l e (rmn 16) s m args below meth c H locs 0 0 Q (F0 m 84 ls [])) : ∀ (n : Nat)  (h : HF) (H : Heap) (locs : List Loc) (ls : Array Slot), Hp g B s h H locs → lv_has ls 3 [(0, .ref (B + u0)), (1, .int (ii u1))] → LX12_laws_68 F u0 u1 k84 n  h = some o → W p l e (rmn 16) s m args below meth c H locs 0 0 Q (F0 m 68 ls []) := by
  intro n
  induction n with
  | zero =>
    intro  h H locs ls  hp hl hf
    cases hf
  | succ n ih =>
    intro  h H locs ls  hp hl hf
    rw [LX12_laws_68] at hf
    refine lv_aload_n cx.1 cx.2.1 dX12_laws_68 rfl (lv_at hl 0 rfl) ?_
    refine z_bipush cx (by decide) dX12_laws_69 ?_
    refine z_ci cx hp (fun o' hx => zrunV (n := 16) (As := [.int (ii 59)]) (rest := []) cx hp (mX12_takes F l g B h u0 59 ru0 (by decide) o' hx) 12 ru0 (by decide) rfl vw_X12_takes ml_X12_227 (by decide) rfl hl.1 rfl (Nat.le_of_ble_eq_true rfl) dX12_laws_71) hf (fun r27 h H locs rr27 hp hf => ?_)
    refine z_if_eq cx rr27 (tgt := 84) dX12_laws_74 (by decide) hf (fun _ hf => ?_) (fun _ hf => ?_)
    · exact hk84  h _ _ ls  hp (lv_sub hl [0, 1] rfl) hf
    · refine lv_aload_n cx.1 cx.2.1 dX12_laws_77 rfl (lv_at hl 0 rfl) ?_
      refine z_cv cx hp (fun o' hx => zrunV (n := 16) (As := []) (rest := []) cx hp (mX12_law F l g B h u0 ru0 o' hx) 12 ru0 (by decide) rfl vw_X12_law ml_X12_250 (by decide) rfl hl.1 rfl (Nat.le_of_ble_eq_true rfl) dX12_laws_78) hf (fun _ h H locs hp hf => ?_)
      refine lv_goto (tgt := 68) cx.1 cx.2.1 dX12_laws_81 (by decide) ?_
      exact ih  h _ _ ls  hp (lv_sub hl [0, 1] rfl) hf
def fX12_laws (F : Nat) (a0 : Nat) (a1 : Int) (h : HF) : RO :=
  zpf h a0 0 0 fun h =>
  zgf h a0 2 fun x1 =>
  zpf h a0 31 x1 fun h =>
  zpf h a0 2 0 fun h =>
  zbd (fX12_isList F a0 a1 h) fun r2 h =>
  if r2 = 0 then (
    some ((-3), h)
  ) else (
    zpf h a0 32 0 fun h =>
    zpf h a0 35 0 fun h =>
    zwr h (a0 + 18) 4 0 fun h =>
    zwr h (a0 + 21) 4 0 fun h =>
    zwr h (a0 + 24) 4 0 fun h =>
    zbd (fX12_nextSign F a0 h) fun _ h =>
    zbd (fX12_law F a0 h) fun _ h =>
    zjn (fun  (h : HF) => (
      zgf h a0 35 fun x5 =>
      zjn (fun  (h : HF) => (
        zbd (fX12_agree F a0 h) fun _ h =>
        zgf h a0 35 fun x7 =>
        zpf h a0 5 x7 fun h =>
        zgf h a0 35 fun x8 =>
        if x8 = 0 then (
          zrd h (a0 + 18) 4 fun x9 =>
          zwr h (a0 + 18) a1 x9 fun h =>
          zrd h (a0 + 21) 4 fun x10 =>
          zwr h (a0 + 21) a1 x10 fun h =>
          zrd h (a0 + 24) 4 fun x11 =>
          zwr h (a0 + 24) a1 x11 fun h =>
          zjn (fun  (h : HF) => (
            zjn (fun  (h : HF) => (
              zjn (fun  (h : HF) => (
                zrd h (a0 + 24) a1 fun x12 =>
                some (x12, h)
              )) fun j375 =>
              LX12_laws_323 F a0 a1 j375 F 0 h
            )) fun j321 =>
            LX12_laws_267 F a0 a1 j321 F 0 h
          )) fun j265 =>
          LX12_laws_169 F a0 a1 j265 F 0 h
        ) else (
          zgf h a0 36 fun x24 =>
          some (wr ((-100) - x24), h)
        )
      )) fun j104 =>
      if x5 = 0 then (
        zgf h a0 33 fun x25 =>
        if x25 = (-1) then (
          j104  h
        ) else (
          zbd (fX12_wrong F a0 1 h) fun _ h =>
          j104  h
        )
      ) else (
        j104  h
      )
    )) fun j84 =>
    LX12_laws_68 F a0 a1 j84 F  h
  )
set_option maxHeartbeats 4000000 in
set_option maxRecDepth 100000 in
theorem mX12_laws (F : Nat) (l : Launch) (g : zG) (B : Nat) (h : HF) (a0 : Nat) (a1 : Int) (ra0 : kt a0 = 15) (ra1 : rng a1) : CTi l g B yX12_laws cX12_laws 3 (some .int) 16 [.ref (B + a0), .int (ii a1)] h (fX12_laws F a0 a1 h) := by
  refine z_enterI (by decide) rfl (Nat.le_of_ble_eq_true rfl) ?_
  intro p e s m args below meth c ls o Q cx hp hl hf hQ
  have hl : lv_has ls 3 [(0, .ref (B + a0)), (1, .int (ii a1))] := hl
  unfold fX12_laws at hf
  refine lv_aload_n cx.1 cx.2.1 dX12_laws_0 rfl (lv_at hl 0 rfl) ?_
  refine z_iconst cx dX12_laws_1 ?_
  refine z_puti cx hp (T := TX12) tyX12 tyX12_ok nmX12 12 0 (by decide) rfl zin_12 (by decide) (by decide) ra0 rfl rfl rfl fl_X12_115 dX12_laws_2 hf (fun h H locs hp hf => ?_)
  refine lv_aload_n cx.1 cx.2.1 dX12_laws_5 rfl (lv_at hl 0 rfl) ?_
  refine lv_aload_n cx.1 cx.2.1 dX12_laws_6 rfl (lv_at hl 0 rfl) ?_
  refine z_geti cx hp (T := TX12) 12 2 rfl zin_12 (by decide) (by decide) ra0 rfl fl_X12_119 dX12_laws_7 hf (fun x1 rx1 hf => ?_)
  refine z_puti cx hp (T := TX12) tyX12 tyX12_ok nmX12 12 31 rx1 rfl zin_12 (by decide) (by decide) ra0 rfl rfl rfl fl_X12_209 dX12_laws_10 hf (fun h H locs hp hf => ?_)
  refine lv_aload_n cx.1 cx.2.1 dX12_laws_13 rfl (lv_at hl 0 rfl) ?_
  refine z_iconst cx dX12_laws_14 ?_
  refine z_puti cx hp (T := TX12) tyX12 tyX12_ok nmX12 12 2 (by decide) rfl zin_12 (by decide) (by decide) ra0 rfl rfl rfl fl_X12_119 dX12_laws_15 hf (fun h H locs hp hf => ?_)
  refine lv_aload_n cx.1 cx.2.1 dX12_laws_18 rfl (lv_at hl 0 rfl) ?_
  refine lv_iload_n cx.1 cx.2.1 dX12_laws_19 rfl (lv_at hl 1 rfl) ?_
  refine z_ci cx hp (fun o' hx => zrunV (n := 16) (As := [.int (ii a1)]) (rest := []) cx hp (mX12_isList F l g B h a0 a1 ra0 ra1 o' hx) 12 ra0 (by decide) rfl vw_X12_isList ml_X12_247 (by decide) rfl hl.1 rfl (Nat.le_of_ble_eq_true rfl) dX12_laws_20) hf (fun r2 h H locs rr2 hp hf => ?_)
  refine z_if_ne cx rr2 (tgt := 29) dX12_laws_23 (by decide) hf (fun _ hf => ?_) (fun _ hf => ?_)
  · refine z_bipush cx (by decide) dX12_laws_26 ?_
    rw [hQ]; exact z_iret cx hp (by decide) dX12_laws_28 hf
  · refine lv_aload_n cx.1 cx.2.1 dX12_laws_29 rfl (lv_at hl 0 rfl) ?_
    refine z_iconst cx dX12_laws_30 ?_
    refine z_puti cx hp (T := TX12) tyX12 tyX12_ok nmX12 12 32 (by decide) rfl zin_12 (by decide) (by decide) ra0 rfl rfl rfl fl_X12_206 dX12_laws_31 hf (fun h H locs hp hf => ?_)
    refine lv_aload_n cx.1 cx.2.1 dX12_laws_34 rfl (lv_at hl 0 rfl) ?_
    refine z_iconst cx dX12_laws_35 ?_
    refine z_puti cx hp (T := TX12) tyX12 tyX12_ok nmX12 12 35 (by decide) rfl zin_12 (by decide) (by decide) ra0 rfl rfl rfl fl_X12_218 dX12_laws_36 hf (fun h H locs hp hf => ?_)
    refine lv_aload_n cx.1 cx.2.1 dX12_laws_39 rfl (lv_at hl 0 rfl) ?_
    refine z_gets cx hp (T := TX12) 12 24 (a0 + 18) rfl zin_12 (by decide) (by decide) ra0 rfl fl_X12_61 dX12_laws_40 ?_
    refine z_iconst cx dX12_laws_43 ?_
    refine z_iconst cx dX12_laws_44 ?_
    refine z_iast cx hp (zs_12_24 a0 (kt_lt ra0 (by decide)) ra0) (by decide) (by decide) dX12_laws_45 hf (fun h H locs hp hf => ?_)
    refine lv_aload_n cx.1 cx.2.1 dX12_laws_46 rfl (lv_at hl 0 rfl) ?_
    refine z_gets cx hp (T := TX12) 12 27 (a0 + 21) rfl zin_12 (by decide) (by decide) ra0 rfl fl_X12_70 dX12_laws_47 ?_
    refine z_iconst cx dX12_laws_50 ?_
    refine z_iconst cx dX12_laws_51 ?_
    refine z_iast cx hp (zs_12_27 a0 (kt_lt ra0 (by decide)) ra0) (by decide) (by decide) dX12_laws_52 hf (fun h H locs hp hf => ?_)
    refine lv_aload_n cx.1 cx.2.1 dX12_laws_53 rfl (lv_at hl 0 rfl) ?_
    refine z_gets cx hp (T := TX12) 12 30 (a0 + 24) rfl zin_12 (by decide) (by decide) ra0 rfl fl_X12_79 dX12_laws_54 ?_
    refine z_iconst cx dX12_laws_57 ?_
    refine z_iconst cx dX12_laws_58 ?_
    refine z_iast cx hp (zs_12_30 a0 (kt_lt ra0 (by decide)) ra0) (by decide) (by decide) dX12_laws_59 hf (fun h H locs hp hf => ?_)
    refine lv_aload_n cx.1 cx.2.1 dX12_laws_60 rfl (lv_at hl 0 rfl) ?_
    refine z_cv cx hp (fun o' hx => zrunV (n := 16) (As := []) (rest := []) cx hp (mX12_nextSign F l g B h a0 ra0 o' hx) 12 ra0 (by decide) rfl vw_X12_nextSign ml_X12_224 (by decide) rfl hl.1 rfl (Nat.le_of_ble_eq_true rfl) dX12_laws_61) hf (fun _ h H locs hp hf => ?_)
    refine lv_aload_n cx.1 cx.2.1 dX12_laws_64 rfl (lv_at hl 0 rfl) ?_
    refine z_cv cx hp (fun o' hx => zrunV (n := 16) (As := []) (rest := []) cx hp (mX12_law F l g B h a0 ra0 o' hx) 12 ra0 (by decide) rfl vw_X12_law ml_X12_250 (by decide) rfl hl.1 rfl (Nat.le_of_ble_eq_true rfl) dX12_laws_65) hf (fun _ h H locs hp hf => ?_)
    refine z_jn hf (fun j => ∀  (h : HF) (H : Heap) (locs : List Loc) (ls : Array Slot), Hp g B s h H locs → lv_has ls 3 [(0, .ref (B + a0)), (1, .int (ii a1))] → j  h = some o → W p l e (rmn 16) s m args below meth c H locs 0 0 Q (F0 m 84 ls [])) ?_ (fun j84 hj84 hf => ?_)
    · intro  h H locs ls  hp hl hf
      refine lv_aload_n cx.1 cx.2.1 dX12_laws_84 rfl (lv_at hl 0 rfl) ?_
      refine z_geti cx hp (T := TX12) 12 35 rfl zin_12 (by decide) (by decide) ra0 rfl fl_X12_218 dX12_laws_85 hf (fun x5 rx5 hf => ?_)
      refine z_jn hf (fun j => ∀  (h : HF) (H : Heap) (locs : List Loc) (ls : Array Slot), Hp g B s h H locs → lv_has ls 3 [(0, .ref (B + a0)), (1, .int (ii a1))] → j  h = some o → W p l e (rmn 16) s m args below meth c H locs 0 0 Q (F0 m 104 ls [])) ?_ (fun j104 hj104 hf => ?_)
      · intro  h H locs ls  hp hl hf
        refine lv_aload_n cx.1 cx.2.1 dX12_laws_104 rfl (lv_at hl 0 rfl) ?_
        refine z_cv cx hp (fun o' hx => zrunV (n := 16) (As := []) (rest := []) cx hp (mX12_agree F l g B h a0 ra0 o' hx) 12 ra0 (by decide) rfl vw_X12_agree ml_X12_253 (by decide) rfl hl.1 rfl (Nat.le_of_ble_eq_true rfl) dX12_laws_105) hf (fun _ h H locs hp hf => ?_)
        refine lv_aload_n cx.1 cx.2.1 dX12_laws_108 rfl (lv_at hl 0 rfl) ?_
        refine lv_aload_n cx.1 cx.2.1 dX12_laws_109 rfl (lv_at hl 0 rfl) ?_
        refine z_geti cx hp (T := TX12) 12 35 rfl zin_12 (by decide) (by decide) ra0 rfl fl_X12_218 dX12_laws_110 hf (fun x7 rx7 hf => ?_)
        refine z_puti cx hp (T := TX12) tyX12 tyX12_ok nmX12 12 5 rx7 rfl zin_12 (by decide) (by decide) ra0 rfl rfl rfl fl_X12_190 dX12_laws_113 hf (fun h H locs hp hf => ?_)
        refine lv_aload_n cx.1 cx.2.1 dX12_laws_116 rfl (lv_at hl 0 rfl) ?_
        refine z_geti cx hp (T := TX12) 12 35 rfl zin_12 (by decide) (by decide) ra0 rfl fl_X12_218 dX12_laws_117 hf (fun x8 rx8 hf => ?_)
        refine z_if_eq cx rx8 (tgt := 131) dX12_laws_120 (by decide) hf (fun _ hf => ?_) (fun _ hf => ?_)
        · refine lv_aload_n cx.1 cx.2.1 dX12_laws_131 rfl (lv_at hl 0 rfl) ?_
          refine z_gets cx hp (T := TX12) 12 24 (a0 + 18) rfl zin_12 (by decide) (by decide) ra0 rfl fl_X12_61 dX12_laws_132 ?_
          refine lv_iload_n cx.1 cx.2.1 dX12_laws_135 rfl (lv_at hl 1 rfl) ?_
          refine lv_aload_n cx.1 cx.2.1 dX12_laws_136 rfl (lv_at hl 0 rfl) ?_
          refine z_gets cx hp (T := TX12) 12 24 (a0 + 18) rfl zin_12 (by decide) (by decide) ra0 rfl fl_X12_61 dX12_laws_137 ?_
          refine z_iconst cx dX12_laws_140 ?_
          refine z_iald cx hp (zs_12_24 a0 (kt_lt ra0 (by decide)) ra0) (by decide) dX12_laws_141 hf (fun x9 rx9 hf => ?_)
          refine z_iast cx hp (zs_12_24 a0 (kt_lt ra0 (by decide)) ra0) ra1 rx9 dX12_laws_142 hf (fun h H locs hp hf => ?_)
          refine lv_aload_n cx.1 cx.2.1 dX12_laws_143 rfl (lv_at hl 0 rfl) ?_
          refine z_gets cx hp (T := TX12) 12 27 (a0 + 21) rfl zin_12 (by decide) (by decide) ra0 rfl fl_X12_70 dX12_laws_144 ?_
          refine lv_iload_n cx.1 cx.2.1 dX12_laws_147 rfl (lv_at hl 1 rfl) ?_
          refine lv_aload_n cx.1 cx.2.1 dX12_laws_148 rfl (lv_at hl 0 rfl) ?_
          refine z_gets cx hp (T := TX12) 12 27 (a0 + 21) rfl zin_12 (by decide) (by decide) ra0 rfl fl_X12_70 dX12_laws_149 ?_
          refine z_iconst cx dX12_laws_152 ?_
          refine z_iald cx hp (zs_12_27 a0 (kt_lt ra0 (by decide)) ra0) (by decide) dX12_laws_153 hf (fun x10 rx10 hf => ?_)
          refine z_iast cx hp (zs_12_27 a0 (kt_lt ra0 (by decide)) ra0) ra1 rx10 dX12_laws_154 hf (fun h H locs hp hf => ?_)
          refine lv_aload_n cx.1 cx.2.1 dX12_laws_155 rfl (lv_at hl 0 rfl) ?_
          refine z_gets cx hp (T := TX12) 12 30 (a0 + 24) rfl zin_12 (by decide) (by decide) ra0 rfl fl_X12_79 dX12_laws_156 ?_
          refine lv_iload_n cx.1 cx.2.1 dX12_laws_159 rfl (lv_at hl 1 rfl) ?_
          refine lv_aload_n cx.1 cx.2.1 dX12_laws_160 rfl (lv_at hl 0 rfl) ?_
          refine z_gets cx hp (T := TX12) 12 30 (a0 + 24) rfl zin_12 (by decide) (by decide) ra0 rfl fl_X12_79 dX12_laws_161 ?_
          refine z_iconst cx dX12_laws_164 ?_
          refine z_iald cx hp (zs_12_30 a0 (kt_lt ra0 (by decide)) ra0) (by decide) dX12_laws_165 hf (fun x11 rx11 hf => ?_)
          refine z_iast cx hp (zs_12_30 a0 (kt_lt ra0 (by decide)) ra0) ra1 rx11 dX12_laws_166 hf (fun h H locs hp hf => ?_)
          refine z_iconst cx dX12_laws_167 ?_
          refine lv_istore_n (lv' := [(2, .int (ii 0)), (0, .ref (B + a0)), (1, .int (ii a1))]) cx.1 cx.2.1 dX12_laws_168 rfl hl (by decide) rfl (fun ls hl => ?_)
          refine z_jn hf (fun j => ∀  (h : HF) (H : Heap) (locs : List Loc) (ls : Array Slot), Hp g B s h H locs → lv_has ls 3 [(0, .ref (B + a0)), (1, .int (ii a1))] → j  h = some o → W p l e (rmn 16) s m args below meth c H locs 0 0 Q (F0 m 265 ls [])) ?_ (fun j265 hj265 hf => ?_)
          · intro  h H locs ls  hp hl hf
            refine z_iconst cx dX12_laws_265 ?_
            refine lv_istore_n (lv' := [(2, .int (ii 0)), (0, .ref (B + a0)), (1, .int (ii a1))]) cx.1 cx.2.1 dX12_laws_266 rfl hl (by decide) rfl (fun ls hl => ?_)
            refine z_jn hf (fun j => ∀  (h : HF) (H : Heap) (locs : List Loc) (ls : Array Slot), Hp g B s h H locs → lv_has ls 3 [(0, .ref (B + a0)), (1, .int (ii a1))] → j  h = some o → W p l e (rmn 16) s m args below meth c H locs 0 0 Q (F0 m 321 ls [])) ?_ (fun j321 hj321 hf => ?_)
            · intro  h H locs ls  hp hl hf
              refine z_iconst cx dX12_laws_321 ?_
              refine lv_istore_n (lv' := [(2, .int (ii 0)), (0, .ref (B + a0)), (1, .int (ii a1))]) cx.1 cx.2.1 dX12_laws_322 rfl hl (by decide) rfl (fun ls hl => ?_)
              refine z_jn hf (fun j => ∀  (h : HF) (H : Heap) (locs : List Loc) (ls : Array Slot), Hp g B s h H locs → lv_has ls 3 [(0, .ref (B + a0)), (1, .int (ii a1))] → j  h = some o → W p l e (rmn 16) s m args below meth c H locs 0 0 Q (F0 m 375 ls [])) ?_ (fun j375 hj375 hf => ?_)
              · intro  h H locs ls  hp hl hf
                refine lv_aload_n cx.1 cx.2.1 dX12_laws_375 rfl (lv_at hl 0 rfl) ?_
                refine z_gets cx hp (T := TX12) 12 30 (a0 + 24) rfl zin_12 (by decide) (by decide) ra0 rfl fl_X12_79 dX12_laws_376 ?_
                refine lv_iload_n cx.1 cx.2.1 dX12_laws_379 rfl (lv_at hl 1 rfl) ?_
                refine z_iald cx hp (zs_12_30 a0 (kt_lt ra0 (by decide)) ra0) ra1 dX12_laws_380 hf (fun x12 rx12 hf => ?_)
                rw [hQ]; exact z_iret cx hp rx12 dX12_laws_381 hf
              exact wX12_laws_323 F cx a0 ra0 a1 ra1 j375 hj375 F 0 h _ _ ls (by decide) hp (lv_sub hl [1, 2, 0] rfl) hf
            exact wX12_laws_267 F cx a0 ra0 a1 ra1 j321 hj321 F 0 h _ _ ls (by decide) hp (lv_sub hl [1, 2, 0] rfl) hf
          exact wX12_laws_169 F cx a0 ra0 a1 ra1 j265 hj265 F 0 h _ _ ls (by decide) hp (lv_sub hl [1, 2, 0] rfl) hf
        · refine z_bipush cx (by decide) dX12_laws_123 ?_
          refine lv_aload_n cx.1 cx.2.1 dX12_laws_125 rfl (lv_at hl 0 rfl) ?_
          refine z_geti cx hp (T := TX12) 12 36 rfl zin_12 (by decide) (by decide) ra0 rfl fl_X12_221 dX12_laws_126 hf (fun x24 rx24 hf => ?_)
          refine z_isub cx dX12_laws_129 ?_
          rw [hQ]; exact z_iret cx hp (rng_wr _) dX12_laws_130 hf
      refine z_if_ne cx rx5 (tgt := 104) dX12_laws_88 (by decide) hf (fun _ hf => ?_) (fun _ hf => ?_)
      · refine lv_aload_n cx.1 cx.2.1 dX12_laws_91 rfl (lv_at hl 0 rfl) ?_
        refine z_geti cx hp (T := TX12) 12 33 rfl zin_12 (by decide) (by decide) ra0 rfl fl_X12_215 dX12_laws_92 hf (fun x25 rx25 hf => ?_)
        refine z_iconst cx dX12_laws_95 ?_
        refine z_icmp_eq cx rx25 (by decide) (tgt := 104) dX12_laws_96 (by decide) hf (fun _ hf => ?_) (fun _ hf => ?_)
        · exact hj104  h _ _ ls  hp (lv_sub hl [0, 1] rfl) hf
        · refine lv_aload_n cx.1 cx.2.1 dX12_laws_99 rfl (lv_at hl 0 rfl) ?_
          refine z_iconst cx dX12_laws_100 ?_
          refine z_cv cx hp (fun o' hx => zrunV (n := 16) (As := [.int (ii 1)]) (rest := []) cx hp (mX12_wrong F l g B h a0 1 ra0 (by decide) o' hx) 12 ra0 (by decide) rfl vw_X12_wrong ml_X12_230 (by decide) rfl hl.1 rfl (Nat.le_of_ble_eq_true rfl) dX12_laws_101) hf (fun _ h H locs hp hf => ?_)
          exact hj104  h _ _ ls  hp (lv_sub hl [0, 1] rfl) hf
      · exact hj104  h _ _ ls  hp (lv_sub hl [0, 1] rfl) hf
    exact wX12_laws_68 F cx a0 ra0 a1 ra1 j84 hj84 F  h _ _ ls  hp (lv_sub hl [0, 1] rfl) hf
