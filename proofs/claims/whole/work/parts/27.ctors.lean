theorem dX11_init_0 : decode cX11_init 0 = .ok (.aload_n 0, 1) := by decide +kernel
theorem dX11_init_1 : decode cX11_init 1 = .ok (.invokespecial 3, 3) := by decide +kernel
theorem dX11_init_4 : decode cX11_init 4 = .ok (.aload_n 0, 1) := by decide +kernel
theorem dX11_init_5 : decode cX11_init 5 = .ok (.new 9, 3) := by decide +kernel
theorem dX11_init_8 : decode cX11_init 8 = .ok (.dup, 1) := by decide +kernel
theorem dX11_init_9 : decode cX11_init 9 = .ok (.sipush 400, 3) := by decide +kernel
theorem dX11_init_12 : decode cX11_init 12 = .ok (.invokespecial 11, 3) := by decide +kernel
theorem dX11_init_15 : decode cX11_init 15 = .ok (.putfield 14, 3) := by decide +kernel
theorem dX11_init_18 : decode cX11_init 18 = .ok (.aload_n 0, 1) := by decide +kernel
theorem dX11_init_19 : decode cX11_init 19 = .ok (.new 9, 3) := by decide +kernel
theorem dX11_init_22 : decode cX11_init 22 = .ok (.dup, 1) := by decide +kernel
theorem dX11_init_23 : decode cX11_init 23 = .ok (.sipush 205, 3) := by decide +kernel
theorem dX11_init_26 : decode cX11_init 26 = .ok (.invokespecial 11, 3) := by decide +kernel
theorem dX11_init_29 : decode cX11_init 29 = .ok (.putfield 18, 3) := by decide +kernel
theorem dX11_init_32 : decode cX11_init 32 = .ok (.aload_n 0, 1) := by decide +kernel
theorem dX11_init_33 : decode cX11_init 33 = .ok (.bipush 8, 2) := by decide +kernel
theorem dX11_init_35 : decode cX11_init 35 = .ok (.anewarray 21, 3) := by decide +kernel
theorem dX11_init_38 : decode cX11_init 38 = .ok (.putfield 23, 3) := by decide +kernel
theorem dX11_init_41 : decode cX11_init 41 = .ok (.aload_n 0, 1) := by decide +kernel
theorem dX11_init_42 : decode cX11_init 42 = .ok (.new 21, 3) := by decide +kernel
theorem dX11_init_45 : decode cX11_init 45 = .ok (.dup, 1) := by decide +kernel
theorem dX11_init_46 : decode cX11_init 46 = .ok (.invokespecial 27, 3) := by decide +kernel
theorem dX11_init_49 : decode cX11_init 49 = .ok (.putfield 28, 3) := by decide +kernel
theorem dX11_init_52 : decode cX11_init 52 = .ok (.aload_n 0, 1) := by decide +kernel
theorem dX11_init_53 : decode cX11_init 53 = .ok (.new 32, 3) := by decide +kernel
theorem dX11_init_56 : decode cX11_init 56 = .ok (.dup, 1) := by decide +kernel
theorem dX11_init_57 : decode cX11_init 57 = .ok (.invokespecial 34, 3) := by decide +kernel
theorem dX11_init_60 : decode cX11_init 60 = .ok (.putfield 35, 3) := by decide +kernel
theorem dX11_init_63 : decode cX11_init 63 = .ok (.aload_n 0, 1) := by decide +kernel
theorem dX11_init_64 : decode cX11_init 64 = .ok (.iconst 4, 1) := by decide +kernel
theorem dX11_init_65 : decode cX11_init 65 = .ok (.anewarray 39, 3) := by decide +kernel
theorem dX11_init_68 : decode cX11_init 68 = .ok (.putfield 41, 3) := by decide +kernel
theorem dX11_init_71 : decode cX11_init 71 = .ok (.aload_n 0, 1) := by decide +kernel
theorem dX11_init_72 : decode cX11_init 72 = .ok (.new 39, 3) := by decide +kernel
theorem dX11_init_75 : decode cX11_init 75 = .ok (.dup, 1) := by decide +kernel
theorem dX11_init_76 : decode cX11_init 76 = .ok (.invokespecial 45, 3) := by decide +kernel
theorem dX11_init_79 : decode cX11_init 79 = .ok (.putfield 46, 3) := by decide +kernel
theorem dX11_init_82 : decode cX11_init 82 = .ok (.aload_n 0, 1) := by decide +kernel
theorem dX11_init_83 : decode cX11_init 83 = .ok (.new 50, 3) := by decide +kernel
theorem dX11_init_86 : decode cX11_init 86 = .ok (.dup, 1) := by decide +kernel
theorem dX11_init_87 : decode cX11_init 87 = .ok (.invokespecial 52, 3) := by decide +kernel
theorem dX11_init_90 : decode cX11_init 90 = .ok (.putfield 53, 3) := by decide +kernel
theorem dX11_init_93 : decode cX11_init 93 = .ok (.aload_n 0, 1) := by decide +kernel
theorem dX11_init_94 : decode cX11_init 94 = .ok (.new 57, 3) := by decide +kernel
theorem dX11_init_97 : decode cX11_init 97 = .ok (.dup, 1) := by decide +kernel
theorem dX11_init_98 : decode cX11_init 98 = .ok (.invokespecial 59, 3) := by decide +kernel
theorem dX11_init_101 : decode cX11_init 101 = .ok (.putfield 60, 3) := by decide +kernel
theorem dX11_init_104 : decode cX11_init 104 = .ok (.aload_n 0, 1) := by decide +kernel
theorem dX11_init_105 : decode cX11_init 105 = .ok (.new 64, 3) := by decide +kernel
theorem dX11_init_108 : decode cX11_init 108 = .ok (.dup, 1) := by decide +kernel
theorem dX11_init_109 : decode cX11_init 109 = .ok (.invokespecial 66, 3) := by decide +kernel
theorem dX11_init_112 : decode cX11_init 112 = .ok (.putfield 67, 3) := by decide +kernel
theorem dX11_init_115 : decode cX11_init 115 = .ok (.aload_n 0, 1) := by decide +kernel
theorem dX11_init_116 : decode cX11_init 116 = .ok (.new 71, 3) := by decide +kernel
theorem dX11_init_119 : decode cX11_init 119 = .ok (.dup, 1) := by decide +kernel
theorem dX11_init_120 : decode cX11_init 120 = .ok (.invokespecial 73, 3) := by decide +kernel
theorem dX11_init_123 : decode cX11_init 123 = .ok (.putfield 74, 3) := by decide +kernel
theorem dX11_init_126 : decode cX11_init 126 = .ok (.aload_n 0, 1) := by decide +kernel
theorem dX11_init_127 : decode cX11_init 127 = .ok (.new 78, 3) := by decide +kernel
theorem dX11_init_130 : decode cX11_init 130 = .ok (.dup, 1) := by decide +kernel
theorem dX11_init_131 : decode cX11_init 131 = .ok (.invokespecial 80, 3) := by decide +kernel
theorem dX11_init_134 : decode cX11_init 134 = .ok (.putfield 81, 3) := by decide +kernel
theorem dX11_init_137 : decode cX11_init 137 = .ok (.aload_n 0, 1) := by decide +kernel
theorem dX11_init_138 : decode cX11_init 138 = .ok (.new 85, 3) := by decide +kernel
theorem dX11_init_141 : decode cX11_init 141 = .ok (.dup, 1) := by decide +kernel
theorem dX11_init_142 : decode cX11_init 142 = .ok (.invokespecial 87, 3) := by decide +kernel
theorem dX11_init_145 : decode cX11_init 145 = .ok (.putfield 88, 3) := by decide +kernel
theorem dX11_init_148 : decode cX11_init 148 = .ok (.aload_n 0, 1) := by decide +kernel
theorem dX11_init_149 : decode cX11_init 149 = .ok (.new 92, 3) := by decide +kernel
theorem dX11_init_152 : decode cX11_init 152 = .ok (.dup, 1) := by decide +kernel
theorem dX11_init_153 : decode cX11_init 153 = .ok (.aload_n 0, 1) := by decide +kernel
theorem dX11_init_154 : decode cX11_init 154 = .ok (.getfield 81, 3) := by decide +kernel
theorem dX11_init_157 : decode cX11_init 157 = .ok (.aload_n 0, 1) := by decide +kernel
theorem dX11_init_158 : decode cX11_init 158 = .ok (.getfield 60, 3) := by decide +kernel
theorem dX11_init_161 : decode cX11_init 161 = .ok (.invokespecial 94, 3) := by decide +kernel
theorem dX11_init_164 : decode cX11_init 164 = .ok (.putfield 97, 3) := by decide +kernel
theorem dX11_init_167 : decode cX11_init 167 = .ok (.aload_n 0, 1) := by decide +kernel
theorem dX11_init_168 : decode cX11_init 168 = .ok (.bipush 7, 2) := by decide +kernel
theorem dX11_init_170 : decode cX11_init 170 = .ok (.newarray .int, 2) := by decide +kernel
theorem dX11_init_172 : decode cX11_init 172 = .ok (.putfield 101, 3) := by decide +kernel
theorem dX11_init_175 : decode cX11_init 175 = .ok (.aload_n 0, 1) := by decide +kernel
theorem dX11_init_176 : decode cX11_init 176 = .ok (.bipush 7, 2) := by decide +kernel
theorem dX11_init_178 : decode cX11_init 178 = .ok (.newarray .int, 2) := by decide +kernel
theorem dX11_init_180 : decode cX11_init 180 = .ok (.putfield 105, 3) := by decide +kernel
theorem dX11_init_183 : decode cX11_init 183 = .ok (.iconst 0, 1) := by decide +kernel
theorem dX11_init_184 : decode cX11_init 184 = .ok (.istore_n 1, 1) := by decide +kernel
theorem dX11_init_185 : decode cX11_init 185 = .ok (.iload_n 1, 1) := by decide +kernel
theorem dX11_init_186 : decode cX11_init 186 = .ok (.bipush 8, 2) := by decide +kernel
theorem dX11_init_188 : decode cX11_init 188 = .ok (.if_icmp .ge 22, 3) := by decide +kernel
theorem dX11_init_191 : decode cX11_init 191 = .ok (.aload_n 0, 1) := by decide +kernel
theorem dX11_init_192 : decode cX11_init 192 = .ok (.getfield 23, 3) := by decide +kernel
theorem dX11_init_195 : decode cX11_init 195 = .ok (.iload_n 1, 1) := by decide +kernel
theorem dX11_init_196 : decode cX11_init 196 = .ok (.new 21, 3) := by decide +kernel
theorem dX11_init_199 : decode cX11_init 199 = .ok (.dup, 1) := by decide +kernel
theorem dX11_init_200 : decode cX11_init 200 = .ok (.invokespecial 27, 3) := by decide +kernel
theorem dX11_init_203 : decode cX11_init 203 = .ok (.aastore, 1) := by decide +kernel
theorem dX11_init_204 : decode cX11_init 204 = .ok (.iinc 1 1, 3) := by decide +kernel
theorem dX11_init_207 : decode cX11_init 207 = .ok (.goto (-22), 3) := by decide +kernel
theorem dX11_init_210 : decode cX11_init 210 = .ok (.iconst 0, 1) := by decide +kernel
theorem dX11_init_211 : decode cX11_init 211 = .ok (.istore_n 1, 1) := by decide +kernel
theorem dX11_init_212 : decode cX11_init 212 = .ok (.iload_n 1, 1) := by decide +kernel
theorem dX11_init_213 : decode cX11_init 213 = .ok (.iconst 4, 1) := by decide +kernel
theorem dX11_init_214 : decode cX11_init 214 = .ok (.if_icmp .ge 22, 3) := by decide +kernel
theorem dX11_init_217 : decode cX11_init 217 = .ok (.aload_n 0, 1) := by decide +kernel
theorem dX11_init_218 : decode cX11_init 218 = .ok (.getfield 41, 3) := by decide +kernel
theorem dX11_init_221 : decode cX11_init 221 = .ok (.iload_n 1, 1) := by decide +kernel
theorem dX11_init_222 : decode cX11_init 222 = .ok (.new 39, 3) := by decide +kernel
theorem dX11_init_225 : decode cX11_init 225 = .ok (.dup, 1) := by decide +kernel
theorem dX11_init_226 : decode cX11_init 226 = .ok (.invokespecial 45, 3) := by decide +kernel
theorem dX11_init_229 : decode cX11_init 229 = .ok (.aastore, 1) := by decide +kernel
theorem dX11_init_230 : decode cX11_init 230 = .ok (.iinc 1 1, 3) := by decide +kernel
theorem dX11_init_233 : decode cX11_init 233 = .ok (.goto (-21), 3) := by decide +kernel
theorem dX11_init_236 : decode cX11_init 236 = .ok (.return_, 1) := by decide +kernel
theorem lf_11 (a : Nat) (hk : kt a = 11 + 3) : ∀ k, (k ≠ 0 ∧ k ≠ 1 ∧ k ≠ 2 ∧ k ≠ 3 ∧ k ≠ 4 ∧ k ≠ 5 ∧ k ≠ 6 ∧ k ≠ 7 ∧ k ≠ 8 ∧ k ≠ 9 ∧ k ≠ 10 ∧ k ≠ 11 ∧ k ≠ 12 ∧ k ≠ 13 ∧ k ≠ 14 ∧ k ≠ 15) → isR a k = true → hFin a k = -1 := by
  intro k hne h
  unfold isR at h
  unfold hFin
  rw [zsk_obj hk] at h ⊢
  match k, hne, h with
  | 0, hne, _ => exact absurd hne (by omega)
  | 1, hne, _ => exact absurd hne (by omega)
  | 2, hne, _ => exact absurd hne (by omega)
  | 3, hne, _ => exact absurd hne (by omega)
  | 4, hne, _ => exact absurd hne (by omega)
  | 5, hne, _ => exact absurd hne (by omega)
  | 6, hne, _ => exact absurd hne (by omega)
  | 7, hne, _ => exact absurd hne (by omega)
  | 8, hne, _ => exact absurd hne (by omega)
  | 9, hne, _ => exact absurd hne (by omega)
  | 10, hne, _ => exact absurd hne (by omega)
  | 11, hne, _ => exact absurd hne (by omega)
  | 12, hne, _ => exact absurd hne (by omega)
  | 13, hne, _ => exact absurd hne (by omega)
  | 14, hne, _ => exact absurd hne (by omega)
  | 15, hne, _ => exact absurd hne (by omega)
  | k + 16, _, h => exact Bool.noConfusion h
set_option maxHeartbeats 8000000 in
set_option maxRecDepth 100000 in
theorem kX11_init (l : Launch) (g : zG) (B : Nat) (u : Nat → Nat → Bool) : CTn l g B yX11_init cX11_init 2 3 180 12809 [.ref (B + 0)] (fun c k => if c = 0 then isR c k else u c k) (0 + 1) (fun c k => if c < 0 then u c k else false) := by
  refine n_enter (by decide) rfl rfl (Nat.le_of_ble_eq_true rfl) ?_
  intro p e s m args below meth c ls cn hn hl
  have hl : lv_has ls 2 [(0, .ref (B + 0))] := hl
  refine lv_aload_n cn.1 cn.2.1 dX11_init_0 rfl (lv_at hl 0 rfl) ?_
  refine W.objInit cn.1 cn.2.1 cn.2.2.2.1 (cn.2.2.2.2.1 _ mo_X11) (cn.2.2.2.2.1 _ zw_oi.1) (cn.2.2.2.2.1 _ zw_oi.2) rfl (hl.1.trans cn.2.2.1.symm) rfl dX11_init_1 (Nat.le_of_ble_eq_true rfl) (Nat.le_of_ble_eq_true rfl) ?_
  refine lv_aload_n cn.1 cn.2.1 dX11_init_4 rfl (lv_at hl 0 rfl) ?_
  refine n_new cn hn tyX1 tyX1_ok rfl zin_1 (show kt 1 = 1 + 3 from by decide) rfl (nd_1 B _ (by decide)) (hfn_all _) cl_X11_9 in_X1.1 in_X1.2 (by decide) (by decide) dX11_init_5 (fun H hn => ?_)
  refine lv_dup cn.1 cn.2.1 dX11_init_8 rfl ?_
  refine lv_sipush (v := ii 400) cn.1 cn.2.1 dX11_init_9 (by decide) ?_
  refine n_run (As := [.int (ii 400)]) (rest := [.ref (B + 1), .ref (B + 0)]) (mc := 1) (ms := 400) cn hn (kX1_init l g B _ 1 (by decide) 400 (by decide)) iw_X1_init (Or.inl ml_X11_11) ⟨by decide, by decide⟩ ⟨by decide, by decide⟩ rfl hl.1 rfl (Nat.le_of_ble_eq_true rfl) dX11_init_12 (fun H locs hn => ?_)
  refine n_put cn hn tyX11 tyX11_ok nmX11 11 0 1 rfl zin_11 (by decide) (by decide) (show kt 0 = 11 + 3 from by decide) (by omega) (Or.inl rfl) (by decide) rfl (Or.inl ⟨_, rfl⟩) fl_X11_14 dX11_init_15 (fun H locs hn => ?_)
  refine lv_aload_n cn.1 cn.2.1 dX11_init_18 rfl (lv_at hl 0 rfl) ?_
  refine n_new cn hn tyX1 tyX1_ok rfl zin_1 (show kt 3 = 1 + 3 from by decide) rfl (nd_1 B _ (by decide)) (hfn_all _) cl_X11_9 in_X1.1 in_X1.2 (by decide) (by decide) dX11_init_19 (fun H hn => ?_)
  refine lv_dup cn.1 cn.2.1 dX11_init_22 rfl ?_
  refine lv_sipush (v := ii 205) cn.1 cn.2.1 dX11_init_23 (by decide) ?_
  refine n_run (As := [.int (ii 205)]) (rest := [.ref (B + 3), .ref (B + 0)]) (mc := 1) (ms := 205) cn hn (kX1_init l g B _ 3 (by decide) 205 (by decide)) iw_X1_init (Or.inl ml_X11_11) ⟨by decide, by decide⟩ ⟨by decide, by decide⟩ rfl hl.1 rfl (Nat.le_of_ble_eq_true rfl) dX11_init_26 (fun H locs hn => ?_)
  refine n_put cn hn tyX11 tyX11_ok nmX11 11 1 3 rfl zin_11 (by decide) (by decide) (show kt 0 = 11 + 3 from by decide) (by omega) (Or.inl rfl) (by decide) rfl (Or.inl ⟨_, rfl⟩) fl_X11_18 dX11_init_29 (fun H locs hn => ?_)
  refine lv_aload_n cn.1 cn.2.1 dX11_init_32 rfl (lv_at hl 0 rfl) ?_
  refine lv_bipush (v := ii 8) cn.1 cn.2.1 dX11_init_33 (by decide) ?_
  refine n_anew cn hn (by decide) (Or.inl ⟨rfl, rfl⟩) (show kt 5 = 1 from by decide) (by decide) cl_X11_21 (by decide) (by decide) dX11_init_35 (fun H hn => ?_)
  refine n_put cn hn tyX11 tyX11_ok nmX11 11 2 5 rfl zin_11 (by decide) (by decide) (show kt 0 = 11 + 3 from by decide) (by omega) (Or.inl rfl) (by decide) rfl (Or.inr ⟨_, rfl⟩) fl_X11_23 dX11_init_38 (fun H locs hn => ?_)
  refine lv_aload_n cn.1 cn.2.1 dX11_init_41 rfl (lv_at hl 0 rfl) ?_
  refine n_new cn hn tyX0 tyX0_ok rfl zin_0 (show kt 6 = 0 + 3 from by decide) rfl (nd_0 B _ (by decide)) (hfn_all _) cl_X11_21 in_X0.1 in_X0.2 (by decide) (by decide) dX11_init_42 (fun H hn => ?_)
  refine lv_dup cn.1 cn.2.1 dX11_init_45 rfl ?_
  refine n_run (As := []) (rest := [.ref (B + 6), .ref (B + 0)]) (mc := 3) (ms := 205) cn hn (kX0_init l g B _ 6 (by decide)) iw_X0_init (Or.inr ni_X11_27) ⟨by decide, by decide⟩ ⟨by decide, by decide⟩ rfl hl.1 rfl (Nat.le_of_ble_eq_true rfl) dX11_init_46 (fun H locs hn => ?_)
  refine n_put cn hn tyX11 tyX11_ok nmX11 11 3 6 rfl zin_11 (by decide) (by decide) (show kt 0 = 11 + 3 from by decide) (by omega) (Or.inl rfl) (by decide) rfl (Or.inl ⟨_, rfl⟩) fl_X11_28 dX11_init_49 (fun H locs hn => ?_)
  refine lv_aload_n cn.1 cn.2.1 dX11_init_52 rfl (lv_at hl 0 rfl) ?_
  refine n_new cn hn tyX3 tyX3_ok rfl zin_3 (show kt 10 = 3 + 3 from by decide) rfl (nd_3 B _ (by decide)) (hfn_all _) cl_X11_32 in_X3.1 in_X3.2 (by decide) (by decide) dX11_init_53 (fun H hn => ?_)
  refine lv_dup cn.1 cn.2.1 dX11_init_56 rfl ?_
  refine n_run (As := []) (rest := [.ref (B + 10), .ref (B + 0)]) (mc := 66) (ms := 3408) cn hn (kX3_init l g B _) iw_X3_init (Or.inl ml_X11_34) ⟨by decide, by decide⟩ ⟨by decide, by decide⟩ rfl hl.1 rfl (Nat.le_of_ble_eq_true rfl) dX11_init_57 (fun H locs hn => ?_)
  refine n_put cn hn tyX11 tyX11_ok nmX11 11 4 10 rfl zin_11 (by decide) (by decide) (show kt 0 = 11 + 3 from by decide) (by omega) (Or.inl rfl) (by decide) rfl (Or.inl ⟨_, rfl⟩) fl_X11_35 dX11_init_60 (fun H locs hn => ?_)
  refine lv_aload_n cn.1 cn.2.1 dX11_init_63 rfl (lv_at hl 0 rfl) ?_
  refine lv_iconst (v := ii 4) cn.1 cn.2.1 dX11_init_64 (by decide) ?_
  refine n_anew cn hn (by decide) (Or.inr ⟨rfl, rfl⟩) (show kt 77 = 2 from by decide) (by decide) cl_X11_39 (by decide) (by decide) dX11_init_65 (fun H hn => ?_)
  refine n_put cn hn tyX11 tyX11_ok nmX11 11 5 77 rfl zin_11 (by decide) (by decide) (show kt 0 = 11 + 3 from by decide) (by omega) (Or.inl rfl) (by decide) rfl (Or.inr ⟨_, rfl⟩) fl_X11_41 dX11_init_68 (fun H locs hn => ?_)
  refine lv_aload_n cn.1 cn.2.1 dX11_init_71 rfl (lv_at hl 0 rfl) ?_
  refine n_new cn hn tyX4 tyX4_ok rfl zin_4 (show kt 78 = 4 + 3 from by decide) rfl (nd_4 B _ (by decide)) (hfn_all _) cl_X11_39 in_X4.1 in_X4.2 (by decide) (by decide) dX11_init_72 (fun H hn => ?_)
  refine lv_dup cn.1 cn.2.1 dX11_init_75 rfl ?_
  refine n_run (As := []) (rest := [.ref (B + 78), .ref (B + 0)]) (mc := 7) (ms := 334) cn hn (kX4_init l g B _ 78 (by decide)) iw_X4_init (Or.inr ni_X11_45) ⟨by decide, by decide⟩ ⟨by decide, by decide⟩ rfl hl.1 rfl (Nat.le_of_ble_eq_true rfl) dX11_init_76 (fun H locs hn => ?_)
  refine n_put cn hn tyX11 tyX11_ok nmX11 11 6 78 rfl zin_11 (by decide) (by decide) (show kt 0 = 11 + 3 from by decide) (by omega) (Or.inr rfl) (by decide) rfl (Or.inl ⟨_, rfl⟩) fl_X11_46 dX11_init_79 (fun H locs hn => ?_)
  refine lv_aload_n cn.1 cn.2.1 dX11_init_82 rfl (lv_at hl 0 rfl) ?_
  refine n_new cn hn tyX10 tyX10_ok rfl zin_10 (show kt 86 = 10 + 3 from by decide) rfl (nd_10 B _ (by decide)) (hfn_all _) cl_X11_50 in_X10.1 in_X10.2 (by decide) (by decide) dX11_init_83 (fun H hn => ?_)
  refine lv_dup cn.1 cn.2.1 dX11_init_86 rfl ?_
  refine n_run (As := []) (rest := [.ref (B + 86), .ref (B + 0)]) (mc := 4) (ms := 886) cn hn (kX10_init l g B _) iw_X10_init (Or.inr ni_X11_52) ⟨by decide, by decide⟩ ⟨by decide, by decide⟩ rfl hl.1 rfl (Nat.le_of_ble_eq_true rfl) dX11_init_87 (fun H locs hn => ?_)
  refine n_put cn hn tyX11 tyX11_ok nmX11 11 7 86 rfl zin_11 (by decide) (by decide) (show kt 0 = 11 + 3 from by decide) (by omega) (Or.inl rfl) (by decide) rfl (Or.inl ⟨_, rfl⟩) fl_X11_53 dX11_init_90 (fun H locs hn => ?_)
  refine lv_aload_n cn.1 cn.2.1 dX11_init_93 rfl (lv_at hl 0 rfl) ?_
  refine n_new cn hn tyX5 tyX5_ok rfl zin_5 (show kt 91 = 5 + 3 from by decide) rfl (nd_5 B _ (by decide)) (hfn_all _) cl_X11_57 in_X5.1 in_X5.2 (by decide) (by decide) dX11_init_94 (fun H hn => ?_)
  refine lv_dup cn.1 cn.2.1 dX11_init_97 rfl ?_
  refine n_run (As := []) (rest := [.ref (B + 91), .ref (B + 0)]) (mc := 2) (ms := 83) cn hn (kX5_init l g B _) iw_X5_init (Or.inr ni_X11_59) ⟨by decide, by decide⟩ ⟨by decide, by decide⟩ rfl hl.1 rfl (Nat.le_of_ble_eq_true rfl) dX11_init_98 (fun H locs hn => ?_)
  refine n_put cn hn tyX11 tyX11_ok nmX11 11 8 91 rfl zin_11 (by decide) (by decide) (show kt 0 = 11 + 3 from by decide) (by omega) (Or.inl rfl) (by decide) rfl (Or.inl ⟨_, rfl⟩) fl_X11_60 dX11_init_101 (fun H locs hn => ?_)
  refine lv_aload_n cn.1 cn.2.1 dX11_init_104 rfl (lv_at hl 0 rfl) ?_
  refine n_new cn hn tyX2 tyX2_ok rfl zin_2 (show kt 94 = 2 + 3 from by decide) rfl (nd_2 B _ (by decide)) (hfn_all _) cl_X11_64 in_X2.1 in_X2.2 (by decide) (by decide) dX11_init_105 (fun H hn => ?_)
  refine lv_dup cn.1 cn.2.1 dX11_init_108 rfl ?_
  refine n_run (As := []) (rest := [.ref (B + 94), .ref (B + 0)]) (mc := 3) (ms := 891) cn hn (kX2_init l g B _) iw_X2_init (Or.inr ni_X11_66) ⟨by decide, by decide⟩ ⟨by decide, by decide⟩ rfl hl.1 rfl (Nat.le_of_ble_eq_true rfl) dX11_init_109 (fun H locs hn => ?_)
  refine n_put cn hn tyX11 tyX11_ok nmX11 11 9 94 rfl zin_11 (by decide) (by decide) (show kt 0 = 11 + 3 from by decide) (by omega) (Or.inl rfl) (by decide) rfl (Or.inl ⟨_, rfl⟩) fl_X11_67 dX11_init_112 (fun H locs hn => ?_)
  refine lv_aload_n cn.1 cn.2.1 dX11_init_115 rfl (lv_at hl 0 rfl) ?_
  refine n_new cn hn tyX7 tyX7_ok rfl zin_7 (show kt 98 = 7 + 3 from by decide) rfl (nd_7 B _ (by decide)) (hfn_all _) cl_X11_71 in_X7.1 in_X7.2 (by decide) (by decide) dX11_init_116 (fun H hn => ?_)
  refine lv_dup cn.1 cn.2.1 dX11_init_119 rfl ?_
  refine n_run (As := []) (rest := [.ref (B + 98), .ref (B + 0)]) (mc := 6) (ms := 798) cn hn (kX7_init l g B _) iw_X7_init (Or.inr ni_X11_73) ⟨by decide, by decide⟩ ⟨by decide, by decide⟩ rfl hl.1 rfl (Nat.le_of_ble_eq_true rfl) dX11_init_120 (fun H locs hn => ?_)
  refine n_put cn hn tyX11 tyX11_ok nmX11 11 10 98 rfl zin_11 (by decide) (by decide) (show kt 0 = 11 + 3 from by decide) (by omega) (Or.inl rfl) (by decide) rfl (Or.inl ⟨_, rfl⟩) fl_X11_74 dX11_init_123 (fun H locs hn => ?_)
  refine lv_aload_n cn.1 cn.2.1 dX11_init_126 rfl (lv_at hl 0 rfl) ?_
  refine n_new cn hn tyX6 tyX6_ok rfl zin_6 (show kt 105 = 6 + 3 from by decide) rfl (nd_6 B _ (by decide)) (hfn_all _) cl_X11_78 in_X6.1 in_X6.2 (by decide) (by decide) dX11_init_127 (fun H hn => ?_)
  refine lv_dup cn.1 cn.2.1 dX11_init_130 rfl ?_
  refine n_run (As := []) (rest := [.ref (B + 105), .ref (B + 0)]) (mc := 4) (ms := 28) cn hn (kX6_init l g B _) iw_X6_init (Or.inr ni_X11_80) ⟨by decide, by decide⟩ ⟨by decide, by decide⟩ rfl hl.1 rfl (Nat.le_of_ble_eq_true rfl) dX11_init_131 (fun H locs hn => ?_)
  refine n_put cn hn tyX11 tyX11_ok nmX11 11 11 105 rfl zin_11 (by decide) (by decide) (show kt 0 = 11 + 3 from by decide) (by omega) (Or.inl rfl) (by decide) rfl (Or.inl ⟨_, rfl⟩) fl_X11_81 dX11_init_134 (fun H locs hn => ?_)
  refine lv_aload_n cn.1 cn.2.1 dX11_init_137 rfl (lv_at hl 0 rfl) ?_
  refine n_new cn hn tyX9 tyX9_ok rfl zin_9 (show kt 110 = 9 + 3 from by decide) rfl (nd_9 B _ (by decide)) (hfn_all _) cl_X11_85 in_X9.1 in_X9.2 (by decide) (by decide) dX11_init_138 (fun H hn => ?_)
  refine lv_dup cn.1 cn.2.1 dX11_init_141 rfl ?_
  refine n_run (As := []) (rest := [.ref (B + 110), .ref (B + 0)]) (mc := 3) (ms := 2407) cn hn (kX9_init l g B _) iw_X9_init (Or.inr ni_X11_87) ⟨by decide, by decide⟩ ⟨by decide, by decide⟩ rfl hl.1 rfl (Nat.le_of_ble_eq_true rfl) dX11_init_142 (fun H locs hn => ?_)
  refine n_put cn hn tyX11 tyX11_ok nmX11 11 12 110 rfl zin_11 (by decide) (by decide) (show kt 0 = 11 + 3 from by decide) (by omega) (Or.inl rfl) (by decide) rfl (Or.inl ⟨_, rfl⟩) fl_X11_88 dX11_init_145 (fun H locs hn => ?_)
  refine lv_aload_n cn.1 cn.2.1 dX11_init_148 rfl (lv_at hl 0 rfl) ?_
  refine n_new cn hn tyX8 tyX8_ok rfl zin_8 (show kt 114 = 8 + 3 from by decide) rfl (nd_8 B _ (by decide)) (hfn_all _) cl_X11_92 in_X8.1 in_X8.2 (by decide) (by decide) dX11_init_149 (fun H hn => ?_)
  refine lv_dup cn.1 cn.2.1 dX11_init_152 rfl ?_
  refine lv_aload_n cn.1 cn.2.1 dX11_init_153 rfl (lv_at hl 0 rfl) ?_
  refine n_get cn hn 11 11 105 rfl zin_11 (by decide) (by decide) (show kt 0 = 11 + 3 from by decide) (by omega) (Or.inl rfl) (by rfl) fl_X11_81 dX11_init_154 ?_
  refine lv_aload_n cn.1 cn.2.1 dX11_init_157 rfl (lv_at hl 0 rfl) ?_
  refine n_get cn hn 11 8 91 rfl zin_11 (by decide) (by decide) (show kt 0 = 11 + 3 from by decide) (by omega) (Or.inl rfl) (by rfl) fl_X11_60 dX11_init_158 ?_
  refine n_run (As := [.ref (B + 105), .ref (B + 91)]) (rest := [.ref (B + 114), .ref (B + 0)]) (mc := 0) (ms := 0) cn hn (kX8_init l g B _) iw_X8_init (Or.inl ml_X11_94) ⟨by decide, by decide⟩ ⟨by decide, by decide⟩ rfl hl.1 rfl (Nat.le_of_ble_eq_true rfl) dX11_init_161 (fun H locs hn => ?_)
  refine n_put cn hn tyX11 tyX11_ok nmX11 11 13 114 rfl zin_11 (by decide) (by decide) (show kt 0 = 11 + 3 from by decide) (by omega) (Or.inl rfl) (by decide) rfl (Or.inl ⟨_, rfl⟩) fl_X11_97 dX11_init_164 (fun H locs hn => ?_)
  refine lv_aload_n cn.1 cn.2.1 dX11_init_167 rfl (lv_at hl 0 rfl) ?_
  refine lv_bipush (v := ii 7) cn.1 cn.2.1 dX11_init_168 (by decide) ?_
  refine n_newa cn hn (by decide) (show kt 115 = 0 from by decide) (by decide) (by decide) (by decide) dX11_init_170 (fun H hn => ?_)
  refine n_put cn hn tyX11 tyX11_ok nmX11 11 14 115 rfl zin_11 (by decide) (by decide) (show kt 0 = 11 + 3 from by decide) (by omega) (Or.inl rfl) (by decide) rfl (Or.inr ⟨_, rfl⟩) fl_X11_101 dX11_init_172 (fun H locs hn => ?_)
  refine lv_aload_n cn.1 cn.2.1 dX11_init_175 rfl (lv_at hl 0 rfl) ?_
  refine lv_bipush (v := ii 7) cn.1 cn.2.1 dX11_init_176 (by decide) ?_
  refine n_newa cn hn (by decide) (show kt 116 = 0 from by decide) (by decide) (by decide) (by decide) dX11_init_178 (fun H hn => ?_)
  refine n_put cn hn tyX11 tyX11_ok nmX11 11 15 116 rfl zin_11 (by decide) (by decide) (show kt 0 = 11 + 3 from by decide) (by omega) (Or.inl rfl) (by decide) rfl (Or.inr ⟨_, rfl⟩) fl_X11_105 dX11_init_180 (fun H locs hn => ?_)
  refine lv_iconst (v := ii 0) cn.1 cn.2.1 dX11_init_183 (by decide) ?_
  refine lv_istore_n (lv' := [(1, .int (ii 0)), (0, .ref (B + 0))]) cn.1 cn.2.1 dX11_init_184 rfl hl (by decide) rfl (fun ls hl => ?_)
  refine lv_iload_n cn.1 cn.2.1 dX11_init_185 rfl (lv_at hl 0 rfl) ?_
  refine lv_bipush (v := ii 8) cn.1 cn.2.1 dX11_init_186 (by decide) ?_
  refine lv_icmp_ge (tgt := 210) cn.1 cn.2.1 dX11_init_188 (by rfl) (fun q => absurd q (by decide)) (fun _ => ?_)
  refine lv_aload_n cn.1 cn.2.1 dX11_init_191 rfl (lv_at hl 1 rfl) ?_
  refine n_get cn hn 11 2 5 rfl zin_11 (by decide) (by decide) (show kt 0 = 11 + 3 from by decide) (by omega) (Or.inl rfl) (by rfl) fl_X11_23 dX11_init_192 ?_
  refine lv_iload_n cn.1 cn.2.1 dX11_init_195 rfl (lv_at hl 0 rfl) ?_
  refine n_new cn hn tyX0 tyX0_ok rfl zin_0 (show kt 117 = 0 + 3 from by decide) rfl (nd_0 B _ (by decide)) (hfn_all _) cl_X11_21 in_X0.1 in_X0.2 (by decide) (by decide) dX11_init_196 (fun H hn => ?_)
  refine lv_dup cn.1 cn.2.1 dX11_init_199 rfl ?_
  refine n_run (As := []) (rest := [.ref (B + 117), .int (ii 0), .ref (B + 5)]) (mc := 3) (ms := 205) cn hn (kX0_init l g B _ 117 (by decide)) iw_X0_init (Or.inr ni_X11_27) ⟨by decide, by decide⟩ ⟨by decide, by decide⟩ rfl hl.1 rfl (Nat.le_of_ble_eq_true rfl) dX11_init_200 (fun H locs hn => ?_)
  refine n_aast cn hn (by decide) (Or.inl ⟨rfl, rfl, rfl⟩) (show kt 5 = 1 from by decide) (by omega) (show kt 117 = 0 + 3 from by decide) (by omega) (by decide) (by decide) dX11_init_203 (fun H locs hn => ?_)
  refine lv_iinc (v := ii 1) (lv' := [(1, .int (ii 1)), (0, .ref (B + 0))]) cn.1 cn.2.1 dX11_init_204 hl (k := 0) rfl (by decide) (by decide) rfl (fun ls hl => ?_)
  refine lv_goto (tgt := 185) cn.1 cn.2.1 dX11_init_207 (by rfl) ?_
  refine lv_iload_n cn.1 cn.2.1 dX11_init_185 rfl (lv_at hl 0 rfl) ?_
  refine lv_bipush (v := ii 8) cn.1 cn.2.1 dX11_init_186 (by decide) ?_
  refine lv_icmp_ge (tgt := 210) cn.1 cn.2.1 dX11_init_188 (by rfl) (fun q => absurd q (by decide)) (fun _ => ?_)
  refine lv_aload_n cn.1 cn.2.1 dX11_init_191 rfl (lv_at hl 1 rfl) ?_
  refine n_get cn hn 11 2 5 rfl zin_11 (by decide) (by decide) (show kt 0 = 11 + 3 from by decide) (by omega) (Or.inl rfl) (by rfl) fl_X11_23 dX11_init_192 ?_
  refine lv_iload_n cn.1 cn.2.1 dX11_init_195 rfl (lv_at hl 0 rfl) ?_
  refine n_new cn hn tyX0 tyX0_ok rfl zin_0 (show kt 121 = 0 + 3 from by decide) rfl (nd_0 B _ (by decide)) (hfn_all _) cl_X11_21 in_X0.1 in_X0.2 (by decide) (by decide) dX11_init_196 (fun H hn => ?_)
  refine lv_dup cn.1 cn.2.1 dX11_init_199 rfl ?_
  refine n_run (As := []) (rest := [.ref (B + 121), .int (ii 1), .ref (B + 5)]) (mc := 3) (ms := 205) cn hn (kX0_init l g B _ 121 (by decide)) iw_X0_init (Or.inr ni_X11_27) ⟨by decide, by decide⟩ ⟨by decide, by decide⟩ rfl hl.1 rfl (Nat.le_of_ble_eq_true rfl) dX11_init_200 (fun H locs hn => ?_)
  refine n_aast cn hn (by decide) (Or.inl ⟨rfl, rfl, rfl⟩) (show kt 5 = 1 from by decide) (by omega) (show kt 121 = 0 + 3 from by decide) (by omega) (by decide) (by decide) dX11_init_203 (fun H locs hn => ?_)
  refine lv_iinc (v := ii 2) (lv' := [(1, .int (ii 2)), (0, .ref (B + 0))]) cn.1 cn.2.1 dX11_init_204 hl (k := 0) rfl (by decide) (by decide) rfl (fun ls hl => ?_)
  refine lv_goto (tgt := 185) cn.1 cn.2.1 dX11_init_207 (by rfl) ?_
  refine lv_iload_n cn.1 cn.2.1 dX11_init_185 rfl (lv_at hl 0 rfl) ?_
  refine lv_bipush (v := ii 8) cn.1 cn.2.1 dX11_init_186 (by decide) ?_
  refine lv_icmp_ge (tgt := 210) cn.1 cn.2.1 dX11_init_188 (by rfl) (fun q => absurd q (by decide)) (fun _ => ?_)
  refine lv_aload_n cn.1 cn.2.1 dX11_init_191 rfl (lv_at hl 1 rfl) ?_
  refine n_get cn hn 11 2 5 rfl zin_11 (by decide) (by decide) (show kt 0 = 11 + 3 from by decide) (by omega) (Or.inl rfl) (by rfl) fl_X11_23 dX11_init_192 ?_
  refine lv_iload_n cn.1 cn.2.1 dX11_init_195 rfl (lv_at hl 0 rfl) ?_
  refine n_new cn hn tyX0 tyX0_ok rfl zin_0 (show kt 125 = 0 + 3 from by decide) rfl (nd_0 B _ (by decide)) (hfn_all _) cl_X11_21 in_X0.1 in_X0.2 (by decide) (by decide) dX11_init_196 (fun H hn => ?_)
  refine lv_dup cn.1 cn.2.1 dX11_init_199 rfl ?_
  refine n_run (As := []) (rest := [.ref (B + 125), .int (ii 2), .ref (B + 5)]) (mc := 3) (ms := 205) cn hn (kX0_init l g B _ 125 (by decide)) iw_X0_init (Or.inr ni_X11_27) ⟨by decide, by decide⟩ ⟨by decide, by decide⟩ rfl hl.1 rfl (Nat.le_of_ble_eq_true rfl) dX11_init_200 (fun H locs hn => ?_)
  refine n_aast cn hn (by decide) (Or.inl ⟨rfl, rfl, rfl⟩) (show kt 5 = 1 from by decide) (by omega) (show kt 125 = 0 + 3 from by decide) (by omega) (by decide) (by decide) dX11_init_203 (fun H locs hn => ?_)
  refine lv_iinc (v := ii 3) (lv' := [(1, .int (ii 3)), (0, .ref (B + 0))]) cn.1 cn.2.1 dX11_init_204 hl (k := 0) rfl (by decide) (by decide) rfl (fun ls hl => ?_)
  refine lv_goto (tgt := 185) cn.1 cn.2.1 dX11_init_207 (by rfl) ?_
  refine lv_iload_n cn.1 cn.2.1 dX11_init_185 rfl (lv_at hl 0 rfl) ?_
  refine lv_bipush (v := ii 8) cn.1 cn.2.1 dX11_init_186 (by decide) ?_
  refine lv_icmp_ge (tgt := 210) cn.1 cn.2.1 dX11_init_188 (by rfl) (fun q => absurd q (by decide)) (fun _ => ?_)
  refine lv_aload_n cn.1 cn.2.1 dX11_init_191 rfl (lv_at hl 1 rfl) ?_
  refine n_get cn hn 11 2 5 rfl zin_11 (by decide) (by decide) (show kt 0 = 11 + 3 from by decide) (by omega) (Or.inl rfl) (by rfl) fl_X11_23 dX11_init_192 ?_
  refine lv_iload_n cn.1 cn.2.1 dX11_init_195 rfl (lv_at hl 0 rfl) ?_
  refine n_new cn hn tyX0 tyX0_ok rfl zin_0 (show kt 129 = 0 + 3 from by decide) rfl (nd_0 B _ (by decide)) (hfn_all _) cl_X11_21 in_X0.1 in_X0.2 (by decide) (by decide) dX11_init_196 (fun H hn => ?_)
  refine lv_dup cn.1 cn.2.1 dX11_init_199 rfl ?_
  refine n_run (As := []) (rest := [.ref (B + 129), .int (ii 3), .ref (B + 5)]) (mc := 3) (ms := 205) cn hn (kX0_init l g B _ 129 (by decide)) iw_X0_init (Or.inr ni_X11_27) ⟨by decide, by decide⟩ ⟨by decide, by decide⟩ rfl hl.1 rfl (Nat.le_of_ble_eq_true rfl) dX11_init_200 (fun H locs hn => ?_)
  refine n_aast cn hn (by decide) (Or.inl ⟨rfl, rfl, rfl⟩) (show kt 5 = 1 from by decide) (by omega) (show kt 129 = 0 + 3 from by decide) (by omega) (by decide) (by decide) dX11_init_203 (fun H locs hn => ?_)
  refine lv_iinc (v := ii 4) (lv' := [(1, .int (ii 4)), (0, .ref (B + 0))]) cn.1 cn.2.1 dX11_init_204 hl (k := 0) rfl (by decide) (by decide) rfl (fun ls hl => ?_)
  refine lv_goto (tgt := 185) cn.1 cn.2.1 dX11_init_207 (by rfl) ?_
  refine lv_iload_n cn.1 cn.2.1 dX11_init_185 rfl (lv_at hl 0 rfl) ?_
  refine lv_bipush (v := ii 8) cn.1 cn.2.1 dX11_init_186 (by decide) ?_
  refine lv_icmp_ge (tgt := 210) cn.1 cn.2.1 dX11_init_188 (by rfl) (fun q => absurd q (by decide)) (fun _ => ?_)
  refine lv_aload_n cn.1 cn.2.1 dX11_init_191 rfl (lv_at hl 1 rfl) ?_
  refine n_get cn hn 11 2 5 rfl zin_11 (by decide) (by decide) (show kt 0 = 11 + 3 from by decide) (by omega) (Or.inl rfl) (by rfl) fl_X11_23 dX11_init_192 ?_
  refine lv_iload_n cn.1 cn.2.1 dX11_init_195 rfl (lv_at hl 0 rfl) ?_
  refine n_new cn hn tyX0 tyX0_ok rfl zin_0 (show kt 133 = 0 + 3 from by decide) rfl (nd_0 B _ (by decide)) (hfn_all _) cl_X11_21 in_X0.1 in_X0.2 (by decide) (by decide) dX11_init_196 (fun H hn => ?_)
  refine lv_dup cn.1 cn.2.1 dX11_init_199 rfl ?_
  refine n_run (As := []) (rest := [.ref (B + 133), .int (ii 4), .ref (B + 5)]) (mc := 3) (ms := 205) cn hn (kX0_init l g B _ 133 (by decide)) iw_X0_init (Or.inr ni_X11_27) ⟨by decide, by decide⟩ ⟨by decide, by decide⟩ rfl hl.1 rfl (Nat.le_of_ble_eq_true rfl) dX11_init_200 (fun H locs hn => ?_)
  refine n_aast cn hn (by decide) (Or.inl ⟨rfl, rfl, rfl⟩) (show kt 5 = 1 from by decide) (by omega) (show kt 133 = 0 + 3 from by decide) (by omega) (by decide) (by decide) dX11_init_203 (fun H locs hn => ?_)
  refine lv_iinc (v := ii 5) (lv' := [(1, .int (ii 5)), (0, .ref (B + 0))]) cn.1 cn.2.1 dX11_init_204 hl (k := 0) rfl (by decide) (by decide) rfl (fun ls hl => ?_)
  refine lv_goto (tgt := 185) cn.1 cn.2.1 dX11_init_207 (by rfl) ?_
  refine lv_iload_n cn.1 cn.2.1 dX11_init_185 rfl (lv_at hl 0 rfl) ?_
  refine lv_bipush (v := ii 8) cn.1 cn.2.1 dX11_init_186 (by decide) ?_
  refine lv_icmp_ge (tgt := 210) cn.1 cn.2.1 dX11_init_188 (by rfl) (fun q => absurd q (by decide)) (fun _ => ?_)
  refine lv_aload_n cn.1 cn.2.1 dX11_init_191 rfl (lv_at hl 1 rfl) ?_
  refine n_get cn hn 11 2 5 rfl zin_11 (by decide) (by decide) (show kt 0 = 11 + 3 from by decide) (by omega) (Or.inl rfl) (by rfl) fl_X11_23 dX11_init_192 ?_
  refine lv_iload_n cn.1 cn.2.1 dX11_init_195 rfl (lv_at hl 0 rfl) ?_
  refine n_new cn hn tyX0 tyX0_ok rfl zin_0 (show kt 137 = 0 + 3 from by decide) rfl (nd_0 B _ (by decide)) (hfn_all _) cl_X11_21 in_X0.1 in_X0.2 (by decide) (by decide) dX11_init_196 (fun H hn => ?_)
  refine lv_dup cn.1 cn.2.1 dX11_init_199 rfl ?_
  refine n_run (As := []) (rest := [.ref (B + 137), .int (ii 5), .ref (B + 5)]) (mc := 3) (ms := 205) cn hn (kX0_init l g B _ 137 (by decide)) iw_X0_init (Or.inr ni_X11_27) ⟨by decide, by decide⟩ ⟨by decide, by decide⟩ rfl hl.1 rfl (Nat.le_of_ble_eq_true rfl) dX11_init_200 (fun H locs hn => ?_)
  refine n_aast cn hn (by decide) (Or.inl ⟨rfl, rfl, rfl⟩) (show kt 5 = 1 from by decide) (by omega) (show kt 137 = 0 + 3 from by decide) (by omega) (by decide) (by decide) dX11_init_203 (fun H locs hn => ?_)
  refine lv_iinc (v := ii 6) (lv' := [(1, .int (ii 6)), (0, .ref (B + 0))]) cn.1 cn.2.1 dX11_init_204 hl (k := 0) rfl (by decide) (by decide) rfl (fun ls hl => ?_)
  refine lv_goto (tgt := 185) cn.1 cn.2.1 dX11_init_207 (by rfl) ?_
  refine lv_iload_n cn.1 cn.2.1 dX11_init_185 rfl (lv_at hl 0 rfl) ?_
  refine lv_bipush (v := ii 8) cn.1 cn.2.1 dX11_init_186 (by decide) ?_
  refine lv_icmp_ge (tgt := 210) cn.1 cn.2.1 dX11_init_188 (by rfl) (fun q => absurd q (by decide)) (fun _ => ?_)
  refine lv_aload_n cn.1 cn.2.1 dX11_init_191 rfl (lv_at hl 1 rfl) ?_
  refine n_get cn hn 11 2 5 rfl zin_11 (by decide) (by decide) (show kt 0 = 11 + 3 from by decide) (by omega) (Or.inl rfl) (by rfl) fl_X11_23 dX11_init_192 ?_
  refine lv_iload_n cn.1 cn.2.1 dX11_init_195 rfl (lv_at hl 0 rfl) ?_
  refine n_new cn hn tyX0 tyX0_ok rfl zin_0 (show kt 141 = 0 + 3 from by decide) rfl (nd_0 B _ (by decide)) (hfn_all _) cl_X11_21 in_X0.1 in_X0.2 (by decide) (by decide) dX11_init_196 (fun H hn => ?_)
  refine lv_dup cn.1 cn.2.1 dX11_init_199 rfl ?_
  refine n_run (As := []) (rest := [.ref (B + 141), .int (ii 6), .ref (B + 5)]) (mc := 3) (ms := 205) cn hn (kX0_init l g B _ 141 (by decide)) iw_X0_init (Or.inr ni_X11_27) ⟨by decide, by decide⟩ ⟨by decide, by decide⟩ rfl hl.1 rfl (Nat.le_of_ble_eq_true rfl) dX11_init_200 (fun H locs hn => ?_)
  refine n_aast cn hn (by decide) (Or.inl ⟨rfl, rfl, rfl⟩) (show kt 5 = 1 from by decide) (by omega) (show kt 141 = 0 + 3 from by decide) (by omega) (by decide) (by decide) dX11_init_203 (fun H locs hn => ?_)
  refine lv_iinc (v := ii 7) (lv' := [(1, .int (ii 7)), (0, .ref (B + 0))]) cn.1 cn.2.1 dX11_init_204 hl (k := 0) rfl (by decide) (by decide) rfl (fun ls hl => ?_)
  refine lv_goto (tgt := 185) cn.1 cn.2.1 dX11_init_207 (by rfl) ?_
  refine lv_iload_n cn.1 cn.2.1 dX11_init_185 rfl (lv_at hl 0 rfl) ?_
  refine lv_bipush (v := ii 8) cn.1 cn.2.1 dX11_init_186 (by decide) ?_
  refine lv_icmp_ge (tgt := 210) cn.1 cn.2.1 dX11_init_188 (by rfl) (fun q => absurd q (by decide)) (fun _ => ?_)
  refine lv_aload_n cn.1 cn.2.1 dX11_init_191 rfl (lv_at hl 1 rfl) ?_
  refine n_get cn hn 11 2 5 rfl zin_11 (by decide) (by decide) (show kt 0 = 11 + 3 from by decide) (by omega) (Or.inl rfl) (by rfl) fl_X11_23 dX11_init_192 ?_
  refine lv_iload_n cn.1 cn.2.1 dX11_init_195 rfl (lv_at hl 0 rfl) ?_
  refine n_new cn hn tyX0 tyX0_ok rfl zin_0 (show kt 145 = 0 + 3 from by decide) rfl (nd_0 B _ (by decide)) (hfn_all _) cl_X11_21 in_X0.1 in_X0.2 (by decide) (by decide) dX11_init_196 (fun H hn => ?_)
  refine lv_dup cn.1 cn.2.1 dX11_init_199 rfl ?_
  refine n_run (As := []) (rest := [.ref (B + 145), .int (ii 7), .ref (B + 5)]) (mc := 3) (ms := 205) cn hn (kX0_init l g B _ 145 (by decide)) iw_X0_init (Or.inr ni_X11_27) ⟨by decide, by decide⟩ ⟨by decide, by decide⟩ rfl hl.1 rfl (Nat.le_of_ble_eq_true rfl) dX11_init_200 (fun H locs hn => ?_)
  refine n_aast cn hn (by decide) (Or.inl ⟨rfl, rfl, rfl⟩) (show kt 5 = 1 from by decide) (by omega) (show kt 145 = 0 + 3 from by decide) (by omega) (by decide) (by decide) dX11_init_203 (fun H locs hn => ?_)
  refine lv_iinc (v := ii 8) (lv' := [(1, .int (ii 8)), (0, .ref (B + 0))]) cn.1 cn.2.1 dX11_init_204 hl (k := 0) rfl (by decide) (by decide) rfl (fun ls hl => ?_)
  refine lv_goto (tgt := 185) cn.1 cn.2.1 dX11_init_207 (by rfl) ?_
  refine lv_iload_n cn.1 cn.2.1 dX11_init_185 rfl (lv_at hl 0 rfl) ?_
  refine lv_bipush (v := ii 8) cn.1 cn.2.1 dX11_init_186 (by decide) ?_
  refine lv_icmp_ge (tgt := 210) cn.1 cn.2.1 dX11_init_188 (by rfl) (fun _ => ?_) (fun q => absurd (by decide) q)
  refine lv_iconst (v := ii 0) cn.1 cn.2.1 dX11_init_210 (by decide) ?_
  refine lv_istore_n (lv' := [(1, .int (ii 0)), (0, .ref (B + 0))]) cn.1 cn.2.1 dX11_init_211 rfl hl (by decide) rfl (fun ls hl => ?_)
  refine lv_iload_n cn.1 cn.2.1 dX11_init_212 rfl (lv_at hl 0 rfl) ?_
  refine lv_iconst (v := ii 4) cn.1 cn.2.1 dX11_init_213 (by decide) ?_
  refine lv_icmp_ge (tgt := 236) cn.1 cn.2.1 dX11_init_214 (by rfl) (fun q => absurd q (by decide)) (fun _ => ?_)
  refine lv_aload_n cn.1 cn.2.1 dX11_init_217 rfl (lv_at hl 1 rfl) ?_
  refine n_get cn hn 11 5 77 rfl zin_11 (by decide) (by decide) (show kt 0 = 11 + 3 from by decide) (by omega) (Or.inl rfl) (by rfl) fl_X11_41 dX11_init_218 ?_
  refine lv_iload_n cn.1 cn.2.1 dX11_init_221 rfl (lv_at hl 0 rfl) ?_
  refine n_new cn hn tyX4 tyX4_ok rfl zin_4 (show kt 149 = 4 + 3 from by decide) rfl (nd_4 B _ (by decide)) (hfn_all _) cl_X11_39 in_X4.1 in_X4.2 (by decide) (by decide) dX11_init_222 (fun H hn => ?_)
  refine lv_dup cn.1 cn.2.1 dX11_init_225 rfl ?_
  refine n_run (As := []) (rest := [.ref (B + 149), .int (ii 0), .ref (B + 77)]) (mc := 7) (ms := 334) cn hn (kX4_init l g B _ 149 (by decide)) iw_X4_init (Or.inr ni_X11_45) ⟨by decide, by decide⟩ ⟨by decide, by decide⟩ rfl hl.1 rfl (Nat.le_of_ble_eq_true rfl) dX11_init_226 (fun H locs hn => ?_)
  refine n_aast cn hn (by decide) (Or.inr ⟨rfl, rfl, rfl⟩) (show kt 77 = 2 from by decide) (by omega) (show kt 149 = 4 + 3 from by decide) (by omega) (by decide) (by decide) dX11_init_229 (fun H locs hn => ?_)
  refine lv_iinc (v := ii 1) (lv' := [(1, .int (ii 1)), (0, .ref (B + 0))]) cn.1 cn.2.1 dX11_init_230 hl (k := 0) rfl (by decide) (by decide) rfl (fun ls hl => ?_)
  refine lv_goto (tgt := 212) cn.1 cn.2.1 dX11_init_233 (by rfl) ?_
  refine lv_iload_n cn.1 cn.2.1 dX11_init_212 rfl (lv_at hl 0 rfl) ?_
  refine lv_iconst (v := ii 4) cn.1 cn.2.1 dX11_init_213 (by decide) ?_
  refine lv_icmp_ge (tgt := 236) cn.1 cn.2.1 dX11_init_214 (by rfl) (fun q => absurd q (by decide)) (fun _ => ?_)
  refine lv_aload_n cn.1 cn.2.1 dX11_init_217 rfl (lv_at hl 1 rfl) ?_
  refine n_get cn hn 11 5 77 rfl zin_11 (by decide) (by decide) (show kt 0 = 11 + 3 from by decide) (by omega) (Or.inl rfl) (by rfl) fl_X11_41 dX11_init_218 ?_
  refine lv_iload_n cn.1 cn.2.1 dX11_init_221 rfl (lv_at hl 0 rfl) ?_
  refine n_new cn hn tyX4 tyX4_ok rfl zin_4 (show kt 157 = 4 + 3 from by decide) rfl (nd_4 B _ (by decide)) (hfn_all _) cl_X11_39 in_X4.1 in_X4.2 (by decide) (by decide) dX11_init_222 (fun H hn => ?_)
  refine lv_dup cn.1 cn.2.1 dX11_init_225 rfl ?_
  refine n_run (As := []) (rest := [.ref (B + 157), .int (ii 1), .ref (B + 77)]) (mc := 7) (ms := 334) cn hn (kX4_init l g B _ 157 (by decide)) iw_X4_init (Or.inr ni_X11_45) ⟨by decide, by decide⟩ ⟨by decide, by decide⟩ rfl hl.1 rfl (Nat.le_of_ble_eq_true rfl) dX11_init_226 (fun H locs hn => ?_)
  refine n_aast cn hn (by decide) (Or.inr ⟨rfl, rfl, rfl⟩) (show kt 77 = 2 from by decide) (by omega) (show kt 157 = 4 + 3 from by decide) (by omega) (by decide) (by decide) dX11_init_229 (fun H locs hn => ?_)
  refine lv_iinc (v := ii 2) (lv' := [(1, .int (ii 2)), (0, .ref (B + 0))]) cn.1 cn.2.1 dX11_init_230 hl (k := 0) rfl (by decide) (by decide) rfl (fun ls hl => ?_)
  refine lv_goto (tgt := 212) cn.1 cn.2.1 dX11_init_233 (by rfl) ?_
  refine lv_iload_n cn.1 cn.2.1 dX11_init_212 rfl (lv_at hl 0 rfl) ?_
  refine lv_iconst (v := ii 4) cn.1 cn.2.1 dX11_init_213 (by decide) ?_
  refine lv_icmp_ge (tgt := 236) cn.1 cn.2.1 dX11_init_214 (by rfl) (fun q => absurd q (by decide)) (fun _ => ?_)
  refine lv_aload_n cn.1 cn.2.1 dX11_init_217 rfl (lv_at hl 1 rfl) ?_
  refine n_get cn hn 11 5 77 rfl zin_11 (by decide) (by decide) (show kt 0 = 11 + 3 from by decide) (by omega) (Or.inl rfl) (by rfl) fl_X11_41 dX11_init_218 ?_
  refine lv_iload_n cn.1 cn.2.1 dX11_init_221 rfl (lv_at hl 0 rfl) ?_
  refine n_new cn hn tyX4 tyX4_ok rfl zin_4 (show kt 165 = 4 + 3 from by decide) rfl (nd_4 B _ (by decide)) (hfn_all _) cl_X11_39 in_X4.1 in_X4.2 (by decide) (by decide) dX11_init_222 (fun H hn => ?_)
  refine lv_dup cn.1 cn.2.1 dX11_init_225 rfl ?_
  refine n_run (As := []) (rest := [.ref (B + 165), .int (ii 2), .ref (B + 77)]) (mc := 7) (ms := 334) cn hn (kX4_init l g B _ 165 (by decide)) iw_X4_init (Or.inr ni_X11_45) ⟨by decide, by decide⟩ ⟨by decide, by decide⟩ rfl hl.1 rfl (Nat.le_of_ble_eq_true rfl) dX11_init_226 (fun H locs hn => ?_)
  refine n_aast cn hn (by decide) (Or.inr ⟨rfl, rfl, rfl⟩) (show kt 77 = 2 from by decide) (by omega) (show kt 165 = 4 + 3 from by decide) (by omega) (by decide) (by decide) dX11_init_229 (fun H locs hn => ?_)
  refine lv_iinc (v := ii 3) (lv' := [(1, .int (ii 3)), (0, .ref (B + 0))]) cn.1 cn.2.1 dX11_init_230 hl (k := 0) rfl (by decide) (by decide) rfl (fun ls hl => ?_)
  refine lv_goto (tgt := 212) cn.1 cn.2.1 dX11_init_233 (by rfl) ?_
  refine lv_iload_n cn.1 cn.2.1 dX11_init_212 rfl (lv_at hl 0 rfl) ?_
  refine lv_iconst (v := ii 4) cn.1 cn.2.1 dX11_init_213 (by decide) ?_
  refine lv_icmp_ge (tgt := 236) cn.1 cn.2.1 dX11_init_214 (by rfl) (fun q => absurd q (by decide)) (fun _ => ?_)
  refine lv_aload_n cn.1 cn.2.1 dX11_init_217 rfl (lv_at hl 1 rfl) ?_
  refine n_get cn hn 11 5 77 rfl zin_11 (by decide) (by decide) (show kt 0 = 11 + 3 from by decide) (by omega) (Or.inl rfl) (by rfl) fl_X11_41 dX11_init_218 ?_
  refine lv_iload_n cn.1 cn.2.1 dX11_init_221 rfl (lv_at hl 0 rfl) ?_
  refine n_new cn hn tyX4 tyX4_ok rfl zin_4 (show kt 173 = 4 + 3 from by decide) rfl (nd_4 B _ (by decide)) (hfn_all _) cl_X11_39 in_X4.1 in_X4.2 (by decide) (by decide) dX11_init_222 (fun H hn => ?_)
  refine lv_dup cn.1 cn.2.1 dX11_init_225 rfl ?_
  refine n_run (As := []) (rest := [.ref (B + 173), .int (ii 3), .ref (B + 77)]) (mc := 7) (ms := 334) cn hn (kX4_init l g B _ 173 (by decide)) iw_X4_init (Or.inr ni_X11_45) ⟨by decide, by decide⟩ ⟨by decide, by decide⟩ rfl hl.1 rfl (Nat.le_of_ble_eq_true rfl) dX11_init_226 (fun H locs hn => ?_)
  refine n_aast cn hn (by decide) (Or.inr ⟨rfl, rfl, rfl⟩) (show kt 77 = 2 from by decide) (by omega) (show kt 173 = 4 + 3 from by decide) (by omega) (by decide) (by decide) dX11_init_229 (fun H locs hn => ?_)
  refine lv_iinc (v := ii 4) (lv' := [(1, .int (ii 4)), (0, .ref (B + 0))]) cn.1 cn.2.1 dX11_init_230 hl (k := 0) rfl (by decide) (by decide) rfl (fun ls hl => ?_)
  refine lv_goto (tgt := 212) cn.1 cn.2.1 dX11_init_233 (by rfl) ?_
  refine lv_iload_n cn.1 cn.2.1 dX11_init_212 rfl (lv_at hl 0 rfl) ?_
  refine lv_iconst (v := ii 4) cn.1 cn.2.1 dX11_init_213 (by decide) ?_
  refine lv_icmp_ge (tgt := 236) cn.1 cn.2.1 dX11_init_214 (by rfl) (fun _ => ?_) (fun q => absurd (by decide) q)
  refine W.widen (k := 180) (n := 12809) (by omega) (by decide) ?_
  refine n_vret (n0 := 0 + 1) cn hn rfl (he_gen ?_ ?_) dX11_init_236
  · intro c k hc
    refine (if_neg (by omega)).trans ?_
    refine (if_pos (by omega)).trans ?_
    refine (if_neg (by omega)).trans ?_
    refine (if_pos (by omega)).trans ?_
    refine (if_neg (by omega)).trans ?_
    refine (if_pos (by omega)).trans ?_
    refine (if_neg (by omega)).trans ?_
    refine (if_pos (by omega)).trans ?_
    refine (if_neg (by omega)).trans ?_
    refine (if_pos (by omega)).trans ?_
    refine (if_neg (by omega)).trans ?_
    refine (if_pos (by omega)).trans ?_
    refine (if_neg (by omega)).trans ?_
    refine (if_pos (by omega)).trans ?_
    refine (if_neg (by omega)).trans ?_
    refine (if_pos (by omega)).trans ?_
    refine (if_neg (by omega)).trans ?_
    refine (if_pos (by omega)).trans ?_
    refine (if_neg (by omega)).trans ?_
    refine (if_pos (by omega)).trans ?_
    refine (if_neg (by omega)).trans ?_
    refine (if_pos (by omega)).trans ?_
    refine (if_neg (by omega)).trans ?_
    refine (if_pos (by omega)).trans ?_
    refine (if_neg (by omega)).trans ?_
    refine (if_neg (by omega)).trans ?_
    refine (if_neg (by omega)).trans ?_
    refine (if_neg (by omega)).trans ?_
    refine (if_neg (by omega)).trans ?_
    refine (if_pos (by omega)).trans ?_
    refine (if_neg (by omega)).trans ?_
    refine (if_pos (by omega)).trans ?_
    refine (if_neg (by omega)).trans ?_
    refine (if_pos (by omega)).trans ?_
    refine (if_neg (by omega)).trans ?_
    refine (if_pos (by omega)).trans ?_
    refine (if_neg (by omega)).trans ?_
    refine (if_pos (by omega)).trans ?_
    refine (if_neg (by omega)).trans ?_
    refine (if_pos (by omega)).trans ?_
    refine (if_neg (by omega)).trans ?_
    refine (if_pos (by omega)).trans ?_
    refine (if_neg (by omega)).trans ?_
    refine (if_pos (by omega)).trans ?_
    refine (if_neg (by omega)).trans ?_
    refine (if_neg (by omega)).trans ?_
    refine (if_neg (by omega)).trans ?_
    refine (if_pos (by omega)).trans ?_
    refine (if_neg (by omega)).trans ?_
    refine (if_pos (by omega)).trans ?_
    refine (if_neg (by omega)).trans ?_
    refine (if_neg (by omega)).trans ?_
    refine (if_neg (by omega)).trans ?_
    refine (if_pos (by omega)).trans ?_
    refine (if_neg (by omega)).trans ?_
    refine (if_pos (by omega)).trans ?_
    exact if_neg (by omega)
  · intro c k h1 h2 hv
    obtain ⟨n1, hv⟩ := zlp1 hv
    obtain ⟨n2, hv⟩ := zlp3 hv
    obtain ⟨n3, hv⟩ := zlp1 hv
    obtain ⟨n4, hv⟩ := zlp3 hv
    obtain ⟨n5, hv⟩ := zlp1 hv
    obtain ⟨n6, hv⟩ := zlp3 hv
    obtain ⟨n7, hv⟩ := zlp1 hv
    obtain ⟨n8, hv⟩ := zlp3 hv
    obtain ⟨n9, hv⟩ := zlp1 hv
    obtain ⟨n10, hv⟩ := zlp3 hv
    obtain ⟨n11, hv⟩ := zlp1 hv
    obtain ⟨n12, hv⟩ := zlp3 hv
    obtain ⟨n13, hv⟩ := zlp1 hv
    obtain ⟨n14, hv⟩ := zlp3 hv
    obtain ⟨n15, hv⟩ := zlp1 hv
    obtain ⟨n16, hv⟩ := zlp3 hv
    obtain ⟨n17, hv⟩ := zlp1 hv
    obtain ⟨n18, hv⟩ := zlp3 hv
    obtain ⟨n19, hv⟩ := zlp1 hv
    obtain ⟨n20, hv⟩ := zlp3 hv
    obtain ⟨n21, hv⟩ := zlp1 hv
    obtain ⟨n22, hv⟩ := zlp3 hv
    obtain ⟨n23, hv⟩ := zlp1 hv
    obtain ⟨n24, hv⟩ := zlp3 hv
    obtain ⟨n25, hv⟩ := zlp1 hv
    obtain ⟨n26, hv⟩ := zlp1 hv
    obtain ⟨n27, hv⟩ := zlp1 hv
    obtain ⟨n28, hv⟩ := zlp1 hv
    obtain ⟨n29, hv⟩ := zlp1 hv
    obtain ⟨n30, hv⟩ := zlp3 hv
    obtain ⟨n31, hv⟩ := zlp1 hv
    obtain ⟨n32, hv⟩ := zlp3 hv
    obtain ⟨n33, hv⟩ := zlp1 hv
    obtain ⟨n34, hv⟩ := zlp3 hv
    obtain ⟨n35, hv⟩ := zlp1 hv
    obtain ⟨n36, hv⟩ := zlp3 hv
    obtain ⟨n37, hv⟩ := zlp1 hv
    obtain ⟨n38, hv⟩ := zlp3 hv
    obtain ⟨n39, hv⟩ := zlp1 hv
    obtain ⟨n40, hv⟩ := zlp3 hv
    obtain ⟨n41, hv⟩ := zlp1 hv
    obtain ⟨n42, hv⟩ := zlp3 hv
    obtain ⟨n43, hv⟩ := zlp1 hv
    obtain ⟨n44, hv⟩ := zlp3 hv
    obtain ⟨n45, hv⟩ := zlp1 hv
    rcases zlp2 hv with ⟨n46, hv⟩ | ⟨n46, hv⟩
    · exact (lfd hv (show kl 77 = 4 by decide) (lfk4 (fun z => n7 ⟨n46, z⟩) (fun z => n5 ⟨n46, z⟩) (fun z => n3 ⟨n46, z⟩) (fun z => n1 ⟨n46, z⟩))).elim
    obtain ⟨n47, hv⟩ := zlp1 hv
    obtain ⟨n48, hv⟩ := zlp3 hv
    obtain ⟨n49, hv⟩ := zlp1 hv
    obtain ⟨n50, hv⟩ := zlp3 hv
    obtain ⟨n51, hv⟩ := zlp1 hv
    rcases zlp2 hv with ⟨n52, hv⟩ | ⟨n52, hv⟩
    · exact (lfd hv (show kl 5 = 8 by decide) (lfk8 (fun z => n23 ⟨n52, z⟩) (fun z => n21 ⟨n52, z⟩) (fun z => n19 ⟨n52, z⟩) (fun z => n17 ⟨n52, z⟩) (fun z => n15 ⟨n52, z⟩) (fun z => n13 ⟨n52, z⟩) (fun z => n11 ⟨n52, z⟩) (fun z => n9 ⟨n52, z⟩))).elim
    obtain ⟨n53, hv⟩ := zlp1 hv
    obtain ⟨n54, hv⟩ := zlp3 hv
    obtain ⟨n55, hv⟩ := zlp1 hv
    obtain ⟨n56, hv⟩ := zlp3 hv
    rcases zlp2 hv with ⟨e0, hv⟩ | ⟨e0, hv⟩
    · exact lfx e0 (lf_11 0 (by decide) k ⟨(fun z => n55 ⟨e0, z⟩), (fun z => n53 ⟨e0, z⟩), (fun z => n51 ⟨e0, z⟩), (fun z => n49 ⟨e0, z⟩), (fun z => n47 ⟨e0, z⟩), (fun z => n45 ⟨e0, z⟩), (fun z => n43 ⟨e0, z⟩), (fun z => n41 ⟨e0, z⟩), (fun z => n39 ⟨e0, z⟩), (fun z => n37 ⟨e0, z⟩), (fun z => n35 ⟨e0, z⟩), (fun z => n33 ⟨e0, z⟩), (fun z => n31 ⟨e0, z⟩), (fun z => n29 ⟨e0, z⟩), (fun z => n27 ⟨e0, z⟩), (fun z => n25 ⟨e0, z⟩)⟩) hv
    · have g0 : 0 ≤ c := h1
      have g1 : 1 ≤ c := Nat.lt_of_le_of_ne g0 (fun z => e0 z.symm)
      exact absurd n56 (Nat.not_lt.mpr g1)
theorem dX12_init_0 : decode cX12_init 0 = .ok (.aload_n 0, 1) := by decide +kernel
theorem dX12_init_1 : decode cX12_init 1 = .ok (.invokespecial 1, 3) := by decide +kernel
theorem dX12_init_4 : decode cX12_init 4 = .ok (.aload_n 0, 1) := by decide +kernel
theorem dX12_init_5 : decode cX12_init 5 = .ok (.sipush 400, 3) := by decide +kernel
theorem dX12_init_8 : decode cX12_init 8 = .ok (.newarray .int, 2) := by decide +kernel
theorem dX12_init_10 : decode cX12_init 10 = .ok (.putfield 7, 3) := by decide +kernel
theorem dX12_init_13 : decode cX12_init 13 = .ok (.aload_n 0, 1) := by decide +kernel
theorem dX12_init_14 : decode cX12_init 14 = .ok (.sipush 210, 3) := by decide +kernel
theorem dX12_init_17 : decode cX12_init 17 = .ok (.newarray .int, 2) := by decide +kernel
theorem dX12_init_19 : decode cX12_init 19 = .ok (.putfield 13, 3) := by decide +kernel
theorem dX12_init_22 : decode cX12_init 22 = .ok (.aload_n 0, 1) := by decide +kernel
theorem dX12_init_23 : decode cX12_init 23 = .ok (.bipush 10, 2) := by decide +kernel
theorem dX12_init_25 : decode cX12_init 25 = .ok (.newarray .int, 2) := by decide +kernel
theorem dX12_init_27 : decode cX12_init 27 = .ok (.putfield 16, 3) := by decide +kernel
theorem dX12_init_30 : decode cX12_init 30 = .ok (.aload_n 0, 1) := by decide +kernel
theorem dX12_init_31 : decode cX12_init 31 = .ok (.bipush 10, 2) := by decide +kernel
theorem dX12_init_33 : decode cX12_init 33 = .ok (.newarray .int, 2) := by decide +kernel
theorem dX12_init_35 : decode cX12_init 35 = .ok (.putfield 19, 3) := by decide +kernel
theorem dX12_init_38 : decode cX12_init 38 = .ok (.aload_n 0, 1) := by decide +kernel
theorem dX12_init_39 : decode cX12_init 39 = .ok (.bipush 40, 2) := by decide +kernel
theorem dX12_init_41 : decode cX12_init 41 = .ok (.newarray .int, 2) := by decide +kernel
theorem dX12_init_43 : decode cX12_init 43 = .ok (.putfield 22, 3) := by decide +kernel
theorem dX12_init_46 : decode cX12_init 46 = .ok (.aload_n 0, 1) := by decide +kernel
theorem dX12_init_47 : decode cX12_init 47 = .ok (.sipush 1960, 3) := by decide +kernel
theorem dX12_init_50 : decode cX12_init 50 = .ok (.newarray .int, 2) := by decide +kernel
theorem dX12_init_52 : decode cX12_init 52 = .ok (.putfield 25, 3) := by decide +kernel
theorem dX12_init_55 : decode cX12_init 55 = .ok (.aload_n 0, 1) := by decide +kernel
theorem dX12_init_56 : decode cX12_init 56 = .ok (.bipush 16, 2) := by decide +kernel
theorem dX12_init_58 : decode cX12_init 58 = .ok (.newarray .int, 2) := by decide +kernel
theorem dX12_init_60 : decode cX12_init 60 = .ok (.putfield 28, 3) := by decide +kernel
theorem dX12_init_63 : decode cX12_init 63 = .ok (.aload_n 0, 1) := by decide +kernel
theorem dX12_init_64 : decode cX12_init 64 = .ok (.bipush 16, 2) := by decide +kernel
theorem dX12_init_66 : decode cX12_init 66 = .ok (.newarray .int, 2) := by decide +kernel
theorem dX12_init_68 : decode cX12_init 68 = .ok (.putfield 31, 3) := by decide +kernel
theorem dX12_init_71 : decode cX12_init 71 = .ok (.aload_n 0, 1) := by decide +kernel
theorem dX12_init_72 : decode cX12_init 72 = .ok (.bipush 16, 2) := by decide +kernel
theorem dX12_init_74 : decode cX12_init 74 = .ok (.newarray .int, 2) := by decide +kernel
theorem dX12_init_76 : decode cX12_init 76 = .ok (.putfield 34, 3) := by decide +kernel
theorem dX12_init_79 : decode cX12_init 79 = .ok (.aload_n 0, 1) := by decide +kernel
theorem dX12_init_80 : decode cX12_init 80 = .ok (.bipush 64, 2) := by decide +kernel
theorem dX12_init_82 : decode cX12_init 82 = .ok (.newarray .int, 2) := by decide +kernel
theorem dX12_init_84 : decode cX12_init 84 = .ok (.putfield 37, 3) := by decide +kernel
theorem dX12_init_87 : decode cX12_init 87 = .ok (.aload_n 0, 1) := by decide +kernel
theorem dX12_init_88 : decode cX12_init 88 = .ok (.sipush 3136, 3) := by decide +kernel
theorem dX12_init_91 : decode cX12_init 91 = .ok (.newarray .int, 2) := by decide +kernel
theorem dX12_init_93 : decode cX12_init 93 = .ok (.putfield 40, 3) := by decide +kernel
theorem dX12_init_96 : decode cX12_init 96 = .ok (.aload_n 0, 1) := by decide +kernel
theorem dX12_init_97 : decode cX12_init 97 = .ok (.bipush 7, 2) := by decide +kernel
theorem dX12_init_99 : decode cX12_init 99 = .ok (.newarray .int, 2) := by decide +kernel
theorem dX12_init_101 : decode cX12_init 101 = .ok (.putfield 43, 3) := by decide +kernel
theorem dX12_init_104 : decode cX12_init 104 = .ok (.aload_n 0, 1) := by decide +kernel
theorem dX12_init_105 : decode cX12_init 105 = .ok (.sipush 400, 3) := by decide +kernel
theorem dX12_init_108 : decode cX12_init 108 = .ok (.newarray .int, 2) := by decide +kernel
theorem dX12_init_110 : decode cX12_init 110 = .ok (.putfield 46, 3) := by decide +kernel
theorem dX12_init_113 : decode cX12_init 113 = .ok (.aload_n 0, 1) := by decide +kernel
theorem dX12_init_114 : decode cX12_init 114 = .ok (.sipush 400, 3) := by decide +kernel
theorem dX12_init_117 : decode cX12_init 117 = .ok (.newarray .int, 2) := by decide +kernel
theorem dX12_init_119 : decode cX12_init 119 = .ok (.putfield 49, 3) := by decide +kernel
theorem dX12_init_122 : decode cX12_init 122 = .ok (.aload_n 0, 1) := by decide +kernel
theorem dX12_init_123 : decode cX12_init 123 = .ok (.sipush 400, 3) := by decide +kernel
theorem dX12_init_126 : decode cX12_init 126 = .ok (.newarray .int, 2) := by decide +kernel
theorem dX12_init_128 : decode cX12_init 128 = .ok (.putfield 52, 3) := by decide +kernel
theorem dX12_init_131 : decode cX12_init 131 = .ok (.aload_n 0, 1) := by decide +kernel
theorem dX12_init_132 : decode cX12_init 132 = .ok (.sipush 400, 3) := by decide +kernel
theorem dX12_init_135 : decode cX12_init 135 = .ok (.newarray .int, 2) := by decide +kernel
theorem dX12_init_137 : decode cX12_init 137 = .ok (.putfield 55, 3) := by decide +kernel
theorem dX12_init_140 : decode cX12_init 140 = .ok (.aload_n 0, 1) := by decide +kernel
theorem dX12_init_141 : decode cX12_init 141 = .ok (.bipush 80, 2) := by decide +kernel
theorem dX12_init_143 : decode cX12_init 143 = .ok (.newarray .int, 2) := by decide +kernel
theorem dX12_init_145 : decode cX12_init 145 = .ok (.putfield 58, 3) := by decide +kernel
theorem dX12_init_148 : decode cX12_init 148 = .ok (.aload_n 0, 1) := by decide +kernel
theorem dX12_init_149 : decode cX12_init 149 = .ok (.iconst 5, 1) := by decide +kernel
theorem dX12_init_150 : decode cX12_init 150 = .ok (.newarray .int, 2) := by decide +kernel
theorem dX12_init_152 : decode cX12_init 152 = .ok (.putfield 61, 3) := by decide +kernel
theorem dX12_init_155 : decode cX12_init 155 = .ok (.aload_n 0, 1) := by decide +kernel
theorem dX12_init_156 : decode cX12_init 156 = .ok (.sipush 200, 3) := by decide +kernel
theorem dX12_init_159 : decode cX12_init 159 = .ok (.newarray .int, 2) := by decide +kernel
theorem dX12_init_161 : decode cX12_init 161 = .ok (.putfield 64, 3) := by decide +kernel
theorem dX12_init_164 : decode cX12_init 164 = .ok (.aload_n 0, 1) := by decide +kernel
theorem dX12_init_165 : decode cX12_init 165 = .ok (.sipush 200, 3) := by decide +kernel
theorem dX12_init_168 : decode cX12_init 168 = .ok (.newarray .int, 2) := by decide +kernel
theorem dX12_init_170 : decode cX12_init 170 = .ok (.putfield 67, 3) := by decide +kernel
theorem dX12_init_173 : decode cX12_init 173 = .ok (.aload_n 0, 1) := by decide +kernel
theorem dX12_init_174 : decode cX12_init 174 = .ok (.iconst 5, 1) := by decide +kernel
theorem dX12_init_175 : decode cX12_init 175 = .ok (.newarray .int, 2) := by decide +kernel
theorem dX12_init_177 : decode cX12_init 177 = .ok (.putfield 70, 3) := by decide +kernel
theorem dX12_init_180 : decode cX12_init 180 = .ok (.aload_n 0, 1) := by decide +kernel
theorem dX12_init_181 : decode cX12_init 181 = .ok (.bipush 35, 2) := by decide +kernel
theorem dX12_init_183 : decode cX12_init 183 = .ok (.newarray .int, 2) := by decide +kernel
theorem dX12_init_185 : decode cX12_init 185 = .ok (.putfield 73, 3) := by decide +kernel
theorem dX12_init_188 : decode cX12_init 188 = .ok (.aload_n 0, 1) := by decide +kernel
theorem dX12_init_189 : decode cX12_init 189 = .ok (.bipush 35, 2) := by decide +kernel
theorem dX12_init_191 : decode cX12_init 191 = .ok (.newarray .int, 2) := by decide +kernel
theorem dX12_init_193 : decode cX12_init 193 = .ok (.putfield 76, 3) := by decide +kernel
theorem dX12_init_196 : decode cX12_init 196 = .ok (.aload_n 0, 1) := by decide +kernel
theorem dX12_init_197 : decode cX12_init 197 = .ok (.iconst 5, 1) := by decide +kernel
theorem dX12_init_198 : decode cX12_init 198 = .ok (.newarray .int, 2) := by decide +kernel
theorem dX12_init_200 : decode cX12_init 200 = .ok (.putfield 79, 3) := by decide +kernel
theorem dX12_init_203 : decode cX12_init 203 = .ok (.aload_n 0, 1) := by decide +kernel
theorem dX12_init_204 : decode cX12_init 204 = .ok (.bipush 49, 2) := by decide +kernel
theorem dX12_init_206 : decode cX12_init 206 = .ok (.newarray .int, 2) := by decide +kernel
theorem dX12_init_208 : decode cX12_init 208 = .ok (.putfield 82, 3) := by decide +kernel
theorem dX12_init_211 : decode cX12_init 211 = .ok (.aload_n 0, 1) := by decide +kernel
theorem dX12_init_212 : decode cX12_init 212 = .ok (.bipush 7, 2) := by decide +kernel
theorem dX12_init_214 : decode cX12_init 214 = .ok (.newarray .int, 2) := by decide +kernel
theorem dX12_init_216 : decode cX12_init 216 = .ok (.putfield 85, 3) := by decide +kernel
theorem dX12_init_219 : decode cX12_init 219 = .ok (.aload_n 0, 1) := by decide +kernel
theorem dX12_init_220 : decode cX12_init 220 = .ok (.bipush 7, 2) := by decide +kernel
theorem dX12_init_222 : decode cX12_init 222 = .ok (.newarray .int, 2) := by decide +kernel
theorem dX12_init_224 : decode cX12_init 224 = .ok (.putfield 88, 3) := by decide +kernel
theorem dX12_init_227 : decode cX12_init 227 = .ok (.aload_n 0, 1) := by decide +kernel
theorem dX12_init_228 : decode cX12_init 228 = .ok (.bipush 7, 2) := by decide +kernel
theorem dX12_init_230 : decode cX12_init 230 = .ok (.newarray .int, 2) := by decide +kernel
theorem dX12_init_232 : decode cX12_init 232 = .ok (.putfield 91, 3) := by decide +kernel
theorem dX12_init_235 : decode cX12_init 235 = .ok (.aload_n 0, 1) := by decide +kernel
theorem dX12_init_236 : decode cX12_init 236 = .ok (.bipush 7, 2) := by decide +kernel
theorem dX12_init_238 : decode cX12_init 238 = .ok (.newarray .int, 2) := by decide +kernel
theorem dX12_init_240 : decode cX12_init 240 = .ok (.putfield 94, 3) := by decide +kernel
theorem dX12_init_243 : decode cX12_init 243 = .ok (.aload_n 0, 1) := by decide +kernel
theorem dX12_init_244 : decode cX12_init 244 = .ok (.bipush 7, 2) := by decide +kernel
theorem dX12_init_246 : decode cX12_init 246 = .ok (.newarray .int, 2) := by decide +kernel
theorem dX12_init_248 : decode cX12_init 248 = .ok (.putfield 97, 3) := by decide +kernel
theorem dX12_init_251 : decode cX12_init 251 = .ok (.aload_n 0, 1) := by decide +kernel
theorem dX12_init_252 : decode cX12_init 252 = .ok (.bipush 7, 2) := by decide +kernel
theorem dX12_init_254 : decode cX12_init 254 = .ok (.newarray .int, 2) := by decide +kernel
theorem dX12_init_256 : decode cX12_init 256 = .ok (.putfield 100, 3) := by decide +kernel
theorem dX12_init_259 : decode cX12_init 259 = .ok (.aload_n 0, 1) := by decide +kernel
theorem dX12_init_260 : decode cX12_init 260 = .ok (.sipush 196, 3) := by decide +kernel
theorem dX12_init_263 : decode cX12_init 263 = .ok (.newarray .int, 2) := by decide +kernel
theorem dX12_init_265 : decode cX12_init 265 = .ok (.putfield 103, 3) := by decide +kernel
theorem dX12_init_268 : decode cX12_init 268 = .ok (.aload_n 0, 1) := by decide +kernel
theorem dX12_init_269 : decode cX12_init 269 = .ok (.sipush 196, 3) := by decide +kernel
theorem dX12_init_272 : decode cX12_init 272 = .ok (.newarray .int, 2) := by decide +kernel
theorem dX12_init_274 : decode cX12_init 274 = .ok (.putfield 106, 3) := by decide +kernel
theorem dX12_init_277 : decode cX12_init 277 = .ok (.aload_n 0, 1) := by decide +kernel
theorem dX12_init_278 : decode cX12_init 278 = .ok (.sipush 300, 3) := by decide +kernel
theorem dX12_init_281 : decode cX12_init 281 = .ok (.newarray .int, 2) := by decide +kernel
theorem dX12_init_283 : decode cX12_init 283 = .ok (.putfield 109, 3) := by decide +kernel
theorem dX12_init_286 : decode cX12_init 286 = .ok (.aload_n 0, 1) := by decide +kernel
theorem dX12_init_287 : decode cX12_init 287 = .ok (.bipush 7, 2) := by decide +kernel
theorem dX12_init_289 : decode cX12_init 289 = .ok (.newarray .int, 2) := by decide +kernel
theorem dX12_init_291 : decode cX12_init 291 = .ok (.putfield 112, 3) := by decide +kernel
theorem dX12_init_294 : decode cX12_init 294 = .ok (.return_, 1) := by decide +kernel
theorem lf_12 (a : Nat) (hk : kt a = 12 + 3) : ∀ k, (k ≠ 1 ∧ k ≠ 3 ∧ k ≠ 6 ∧ k ≠ 7 ∧ k ≠ 8 ∧ k ≠ 9 ∧ k ≠ 10 ∧ k ≠ 11 ∧ k ≠ 12 ∧ k ≠ 13 ∧ k ≠ 14 ∧ k ≠ 18 ∧ k ≠ 19 ∧ k ≠ 20 ∧ k ≠ 21 ∧ k ≠ 22 ∧ k ≠ 23 ∧ k ≠ 24 ∧ k ≠ 25 ∧ k ≠ 26 ∧ k ≠ 27 ∧ k ≠ 28 ∧ k ≠ 29 ∧ k ≠ 30 ∧ k ≠ 41 ∧ k ≠ 42 ∧ k ≠ 44 ∧ k ≠ 45 ∧ k ≠ 46 ∧ k ≠ 48 ∧ k ≠ 49 ∧ k ≠ 50 ∧ k ≠ 51 ∧ k ≠ 52 ∧ k ≠ 54) → isR a k = true → hFin a k = -1 := by
  intro k hne h
  unfold isR at h
  unfold hFin
  rw [zsk_obj hk] at h ⊢
  match k, hne, h with
  | 0, _, h => exact Bool.noConfusion h
  | 1, hne, _ => exact absurd hne (by omega)
  | 2, _, h => exact Bool.noConfusion h
  | 3, hne, _ => exact absurd hne (by omega)
  | 4, _, h => exact Bool.noConfusion h
  | 5, _, h => exact Bool.noConfusion h
  | 6, hne, _ => exact absurd hne (by omega)
  | 7, hne, _ => exact absurd hne (by omega)
  | 8, hne, _ => exact absurd hne (by omega)
  | 9, hne, _ => exact absurd hne (by omega)
  | 10, hne, _ => exact absurd hne (by omega)
  | 11, hne, _ => exact absurd hne (by omega)
  | 12, hne, _ => exact absurd hne (by omega)
  | 13, hne, _ => exact absurd hne (by omega)
  | 14, hne, _ => exact absurd hne (by omega)
  | 15, _, h => exact Bool.noConfusion h
  | 16, _, h => exact Bool.noConfusion h
  | 17, _, h => exact Bool.noConfusion h
  | 18, hne, _ => exact absurd hne (by omega)
  | 19, hne, _ => exact absurd hne (by omega)
  | 20, hne, _ => exact absurd hne (by omega)
  | 21, hne, _ => exact absurd hne (by omega)
  | 22, hne, _ => exact absurd hne (by omega)
  | 23, hne, _ => exact absurd hne (by omega)
  | 24, hne, _ => exact absurd hne (by omega)
  | 25, hne, _ => exact absurd hne (by omega)
  | 26, hne, _ => exact absurd hne (by omega)
  | 27, hne, _ => exact absurd hne (by omega)
  | 28, hne, _ => exact absurd hne (by omega)
  | 29, hne, _ => exact absurd hne (by omega)
  | 30, hne, _ => exact absurd hne (by omega)
  | 31, _, h => exact Bool.noConfusion h
  | 32, _, h => exact Bool.noConfusion h
  | 33, _, h => exact Bool.noConfusion h
  | 34, _, h => exact Bool.noConfusion h
  | 35, _, h => exact Bool.noConfusion h
  | 36, _, h => exact Bool.noConfusion h
  | 37, _, h => exact Bool.noConfusion h
  | 38, _, h => exact Bool.noConfusion h
  | 39, _, h => exact Bool.noConfusion h
  | 40, _, h => exact Bool.noConfusion h
  | 41, hne, _ => exact absurd hne (by omega)
  | 42, hne, _ => exact absurd hne (by omega)
  | 43, _, h => exact Bool.noConfusion h
  | 44, hne, _ => exact absurd hne (by omega)
  | 45, hne, _ => exact absurd hne (by omega)
  | 46, hne, _ => exact absurd hne (by omega)
  | 47, _, h => exact Bool.noConfusion h
  | 48, hne, _ => exact absurd hne (by omega)
  | 49, hne, _ => exact absurd hne (by omega)
  | 50, hne, _ => exact absurd hne (by omega)
  | 51, hne, _ => exact absurd hne (by omega)
  | 52, hne, _ => exact absurd hne (by omega)
  | 53, _, h => exact Bool.noConfusion h
  | 54, hne, _ => exact absurd hne (by omega)
  | k + 55, _, h => exact Bool.noConfusion h
set_option maxHeartbeats 8000000 in
set_option maxRecDepth 100000 in
theorem kX12_init (l : Launch) (g : zG) (B : Nat) (u : Nat → Nat → Bool) : CTn l g B yX12_init cX12_init 1 1 35 8840 [.ref (B + 181)] (fun c k => if c = 181 then isR c k else u c k) (181 + 1) (fun c k => if c < 181 then u c k else false) := by
  refine n_enter (by decide) rfl rfl (Nat.le_of_ble_eq_true rfl) ?_
  intro p e s m args below meth c ls cn hn hl
  have hl : lv_has ls 1 [(0, .ref (B + 181))] := hl
  refine lv_aload_n cn.1 cn.2.1 dX12_init_0 rfl (lv_at hl 0 rfl) ?_
  refine W.objInit cn.1 cn.2.1 cn.2.2.2.1 (cn.2.2.2.2.1 _ mo_X12) (cn.2.2.2.2.1 _ zw_oi.1) (cn.2.2.2.2.1 _ zw_oi.2) rfl (hl.1.trans cn.2.2.1.symm) rfl dX12_init_1 (Nat.le_of_ble_eq_true rfl) (Nat.le_of_ble_eq_true rfl) ?_
  refine lv_aload_n cn.1 cn.2.1 dX12_init_4 rfl (lv_at hl 0 rfl) ?_
  refine lv_sipush (v := ii 400) cn.1 cn.2.1 dX12_init_5 (by decide) ?_
  refine n_newa cn hn (by decide) (show kt 182 = 0 from by decide) (by decide) (by decide) (by decide) dX12_init_8 (fun H hn => ?_)
  refine n_put cn hn tyX12 tyX12_ok nmX12 12 1 182 rfl zin_12 (by decide) (by decide) (show kt 181 = 12 + 3 from by decide) (by omega) (Or.inl rfl) (by decide) rfl (Or.inr ⟨_, rfl⟩) fl_X12_7 dX12_init_10 (fun H locs hn => ?_)
  refine lv_aload_n cn.1 cn.2.1 dX12_init_13 rfl (lv_at hl 0 rfl) ?_
  refine lv_sipush (v := ii 210) cn.1 cn.2.1 dX12_init_14 (by decide) ?_
  refine n_newa cn hn (by decide) (show kt 183 = 0 from by decide) (by decide) (by decide) (by decide) dX12_init_17 (fun H hn => ?_)
  refine n_put cn hn tyX12 tyX12_ok nmX12 12 3 183 rfl zin_12 (by decide) (by decide) (show kt 181 = 12 + 3 from by decide) (by omega) (Or.inl rfl) (by decide) rfl (Or.inr ⟨_, rfl⟩) fl_X12_13 dX12_init_19 (fun H locs hn => ?_)
  refine lv_aload_n cn.1 cn.2.1 dX12_init_22 rfl (lv_at hl 0 rfl) ?_
  refine lv_bipush (v := ii 10) cn.1 cn.2.1 dX12_init_23 (by decide) ?_
  refine n_newa cn hn (by decide) (show kt 184 = 0 from by decide) (by decide) (by decide) (by decide) dX12_init_25 (fun H hn => ?_)
  refine n_put cn hn tyX12 tyX12_ok nmX12 12 6 184 rfl zin_12 (by decide) (by decide) (show kt 181 = 12 + 3 from by decide) (by omega) (Or.inl rfl) (by decide) rfl (Or.inr ⟨_, rfl⟩) fl_X12_16 dX12_init_27 (fun H locs hn => ?_)
  refine lv_aload_n cn.1 cn.2.1 dX12_init_30 rfl (lv_at hl 0 rfl) ?_
  refine lv_bipush (v := ii 10) cn.1 cn.2.1 dX12_init_31 (by decide) ?_
  refine n_newa cn hn (by decide) (show kt 185 = 0 from by decide) (by decide) (by decide) (by decide) dX12_init_33 (fun H hn => ?_)
  refine n_put cn hn tyX12 tyX12_ok nmX12 12 7 185 rfl zin_12 (by decide) (by decide) (show kt 181 = 12 + 3 from by decide) (by omega) (Or.inl rfl) (by decide) rfl (Or.inr ⟨_, rfl⟩) fl_X12_19 dX12_init_35 (fun H locs hn => ?_)
  refine lv_aload_n cn.1 cn.2.1 dX12_init_38 rfl (lv_at hl 0 rfl) ?_
  refine lv_bipush (v := ii 40) cn.1 cn.2.1 dX12_init_39 (by decide) ?_
  refine n_newa cn hn (by decide) (show kt 186 = 0 from by decide) (by decide) (by decide) (by decide) dX12_init_41 (fun H hn => ?_)
  refine n_put cn hn tyX12 tyX12_ok nmX12 12 8 186 rfl zin_12 (by decide) (by decide) (show kt 181 = 12 + 3 from by decide) (by omega) (Or.inl rfl) (by decide) rfl (Or.inr ⟨_, rfl⟩) fl_X12_22 dX12_init_43 (fun H locs hn => ?_)
  refine lv_aload_n cn.1 cn.2.1 dX12_init_46 rfl (lv_at hl 0 rfl) ?_
  refine lv_sipush (v := ii 1960) cn.1 cn.2.1 dX12_init_47 (by decide) ?_
  refine n_newa cn hn (by decide) (show kt 187 = 0 from by decide) (by decide) (by decide) (by decide) dX12_init_50 (fun H hn => ?_)
  refine n_put cn hn tyX12 tyX12_ok nmX12 12 9 187 rfl zin_12 (by decide) (by decide) (show kt 181 = 12 + 3 from by decide) (by omega) (Or.inl rfl) (by decide) rfl (Or.inr ⟨_, rfl⟩) fl_X12_25 dX12_init_52 (fun H locs hn => ?_)
  refine lv_aload_n cn.1 cn.2.1 dX12_init_55 rfl (lv_at hl 0 rfl) ?_
  refine lv_bipush (v := ii 16) cn.1 cn.2.1 dX12_init_56 (by decide) ?_
  refine n_newa cn hn (by decide) (show kt 188 = 0 from by decide) (by decide) (by decide) (by decide) dX12_init_58 (fun H hn => ?_)
  refine n_put cn hn tyX12 tyX12_ok nmX12 12 10 188 rfl zin_12 (by decide) (by decide) (show kt 181 = 12 + 3 from by decide) (by omega) (Or.inl rfl) (by decide) rfl (Or.inr ⟨_, rfl⟩) fl_X12_28 dX12_init_60 (fun H locs hn => ?_)
  refine lv_aload_n cn.1 cn.2.1 dX12_init_63 rfl (lv_at hl 0 rfl) ?_
  refine lv_bipush (v := ii 16) cn.1 cn.2.1 dX12_init_64 (by decide) ?_
  refine n_newa cn hn (by decide) (show kt 189 = 0 from by decide) (by decide) (by decide) (by decide) dX12_init_66 (fun H hn => ?_)
  refine n_put cn hn tyX12 tyX12_ok nmX12 12 11 189 rfl zin_12 (by decide) (by decide) (show kt 181 = 12 + 3 from by decide) (by omega) (Or.inl rfl) (by decide) rfl (Or.inr ⟨_, rfl⟩) fl_X12_31 dX12_init_68 (fun H locs hn => ?_)
  refine lv_aload_n cn.1 cn.2.1 dX12_init_71 rfl (lv_at hl 0 rfl) ?_
  refine lv_bipush (v := ii 16) cn.1 cn.2.1 dX12_init_72 (by decide) ?_
  refine n_newa cn hn (by decide) (show kt 190 = 0 from by decide) (by decide) (by decide) (by decide) dX12_init_74 (fun H hn => ?_)
  refine n_put cn hn tyX12 tyX12_ok nmX12 12 12 190 rfl zin_12 (by decide) (by decide) (show kt 181 = 12 + 3 from by decide) (by omega) (Or.inl rfl) (by decide) rfl (Or.inr ⟨_, rfl⟩) fl_X12_34 dX12_init_76 (fun H locs hn => ?_)
  refine lv_aload_n cn.1 cn.2.1 dX12_init_79 rfl (lv_at hl 0 rfl) ?_
  refine lv_bipush (v := ii 64) cn.1 cn.2.1 dX12_init_80 (by decide) ?_
  refine n_newa cn hn (by decide) (show kt 191 = 0 from by decide) (by decide) (by decide) (by decide) dX12_init_82 (fun H hn => ?_)
  refine n_put cn hn tyX12 tyX12_ok nmX12 12 13 191 rfl zin_12 (by decide) (by decide) (show kt 181 = 12 + 3 from by decide) (by omega) (Or.inl rfl) (by decide) rfl (Or.inr ⟨_, rfl⟩) fl_X12_37 dX12_init_84 (fun H locs hn => ?_)
  refine lv_aload_n cn.1 cn.2.1 dX12_init_87 rfl (lv_at hl 0 rfl) ?_
  refine lv_sipush (v := ii 3136) cn.1 cn.2.1 dX12_init_88 (by decide) ?_
  refine n_newa cn hn (by decide) (show kt 192 = 0 from by decide) (by decide) (by decide) (by decide) dX12_init_91 (fun H hn => ?_)
  refine n_put cn hn tyX12 tyX12_ok nmX12 12 14 192 rfl zin_12 (by decide) (by decide) (show kt 181 = 12 + 3 from by decide) (by omega) (Or.inl rfl) (by decide) rfl (Or.inr ⟨_, rfl⟩) fl_X12_40 dX12_init_93 (fun H locs hn => ?_)
  refine lv_aload_n cn.1 cn.2.1 dX12_init_96 rfl (lv_at hl 0 rfl) ?_
  refine lv_bipush (v := ii 7) cn.1 cn.2.1 dX12_init_97 (by decide) ?_
  refine n_newa cn hn (by decide) (show kt 193 = 0 from by decide) (by decide) (by decide) (by decide) dX12_init_99 (fun H hn => ?_)
  refine n_put cn hn tyX12 tyX12_ok nmX12 12 18 193 rfl zin_12 (by decide) (by decide) (show kt 181 = 12 + 3 from by decide) (by omega) (Or.inl rfl) (by decide) rfl (Or.inr ⟨_, rfl⟩) fl_X12_43 dX12_init_101 (fun H locs hn => ?_)
  refine lv_aload_n cn.1 cn.2.1 dX12_init_104 rfl (lv_at hl 0 rfl) ?_
  refine lv_sipush (v := ii 400) cn.1 cn.2.1 dX12_init_105 (by decide) ?_
  refine n_newa cn hn (by decide) (show kt 194 = 0 from by decide) (by decide) (by decide) (by decide) dX12_init_108 (fun H hn => ?_)
  refine n_put cn hn tyX12 tyX12_ok nmX12 12 19 194 rfl zin_12 (by decide) (by decide) (show kt 181 = 12 + 3 from by decide) (by omega) (Or.inl rfl) (by decide) rfl (Or.inr ⟨_, rfl⟩) fl_X12_46 dX12_init_110 (fun H locs hn => ?_)
  refine lv_aload_n cn.1 cn.2.1 dX12_init_113 rfl (lv_at hl 0 rfl) ?_
  refine lv_sipush (v := ii 400) cn.1 cn.2.1 dX12_init_114 (by decide) ?_
  refine n_newa cn hn (by decide) (show kt 195 = 0 from by decide) (by decide) (by decide) (by decide) dX12_init_117 (fun H hn => ?_)
  refine n_put cn hn tyX12 tyX12_ok nmX12 12 20 195 rfl zin_12 (by decide) (by decide) (show kt 181 = 12 + 3 from by decide) (by omega) (Or.inl rfl) (by decide) rfl (Or.inr ⟨_, rfl⟩) fl_X12_49 dX12_init_119 (fun H locs hn => ?_)
  refine lv_aload_n cn.1 cn.2.1 dX12_init_122 rfl (lv_at hl 0 rfl) ?_
  refine lv_sipush (v := ii 400) cn.1 cn.2.1 dX12_init_123 (by decide) ?_
  refine n_newa cn hn (by decide) (show kt 196 = 0 from by decide) (by decide) (by decide) (by decide) dX12_init_126 (fun H hn => ?_)
  refine n_put cn hn tyX12 tyX12_ok nmX12 12 21 196 rfl zin_12 (by decide) (by decide) (show kt 181 = 12 + 3 from by decide) (by omega) (Or.inl rfl) (by decide) rfl (Or.inr ⟨_, rfl⟩) fl_X12_52 dX12_init_128 (fun H locs hn => ?_)
  refine lv_aload_n cn.1 cn.2.1 dX12_init_131 rfl (lv_at hl 0 rfl) ?_
  refine lv_sipush (v := ii 400) cn.1 cn.2.1 dX12_init_132 (by decide) ?_
  refine n_newa cn hn (by decide) (show kt 197 = 0 from by decide) (by decide) (by decide) (by decide) dX12_init_135 (fun H hn => ?_)
  refine n_put cn hn tyX12 tyX12_ok nmX12 12 22 197 rfl zin_12 (by decide) (by decide) (show kt 181 = 12 + 3 from by decide) (by omega) (Or.inl rfl) (by decide) rfl (Or.inr ⟨_, rfl⟩) fl_X12_55 dX12_init_137 (fun H locs hn => ?_)
  refine lv_aload_n cn.1 cn.2.1 dX12_init_140 rfl (lv_at hl 0 rfl) ?_
  refine lv_bipush (v := ii 80) cn.1 cn.2.1 dX12_init_141 (by decide) ?_
  refine n_newa cn hn (by decide) (show kt 198 = 0 from by decide) (by decide) (by decide) (by decide) dX12_init_143 (fun H hn => ?_)
  refine n_put cn hn tyX12 tyX12_ok nmX12 12 23 198 rfl zin_12 (by decide) (by decide) (show kt 181 = 12 + 3 from by decide) (by omega) (Or.inl rfl) (by decide) rfl (Or.inr ⟨_, rfl⟩) fl_X12_58 dX12_init_145 (fun H locs hn => ?_)
  refine lv_aload_n cn.1 cn.2.1 dX12_init_148 rfl (lv_at hl 0 rfl) ?_
  refine lv_iconst (v := ii 5) cn.1 cn.2.1 dX12_init_149 (by decide) ?_
  refine n_newa cn hn (by decide) (show kt 199 = 0 from by decide) (by decide) (by decide) (by decide) dX12_init_150 (fun H hn => ?_)
  refine n_put cn hn tyX12 tyX12_ok nmX12 12 24 199 rfl zin_12 (by decide) (by decide) (show kt 181 = 12 + 3 from by decide) (by omega) (Or.inl rfl) (by decide) rfl (Or.inr ⟨_, rfl⟩) fl_X12_61 dX12_init_152 (fun H locs hn => ?_)
  refine lv_aload_n cn.1 cn.2.1 dX12_init_155 rfl (lv_at hl 0 rfl) ?_
  refine lv_sipush (v := ii 200) cn.1 cn.2.1 dX12_init_156 (by decide) ?_
  refine n_newa cn hn (by decide) (show kt 200 = 0 from by decide) (by decide) (by decide) (by decide) dX12_init_159 (fun H hn => ?_)
  refine n_put cn hn tyX12 tyX12_ok nmX12 12 25 200 rfl zin_12 (by decide) (by decide) (show kt 181 = 12 + 3 from by decide) (by omega) (Or.inl rfl) (by decide) rfl (Or.inr ⟨_, rfl⟩) fl_X12_64 dX12_init_161 (fun H locs hn => ?_)
  refine lv_aload_n cn.1 cn.2.1 dX12_init_164 rfl (lv_at hl 0 rfl) ?_
  refine lv_sipush (v := ii 200) cn.1 cn.2.1 dX12_init_165 (by decide) ?_
  refine n_newa cn hn (by decide) (show kt 201 = 0 from by decide) (by decide) (by decide) (by decide) dX12_init_168 (fun H hn => ?_)
  refine n_put cn hn tyX12 tyX12_ok nmX12 12 26 201 rfl zin_12 (by decide) (by decide) (show kt 181 = 12 + 3 from by decide) (by omega) (Or.inl rfl) (by decide) rfl (Or.inr ⟨_, rfl⟩) fl_X12_67 dX12_init_170 (fun H locs hn => ?_)
  refine lv_aload_n cn.1 cn.2.1 dX12_init_173 rfl (lv_at hl 0 rfl) ?_
  refine lv_iconst (v := ii 5) cn.1 cn.2.1 dX12_init_174 (by decide) ?_
  refine n_newa cn hn (by decide) (show kt 202 = 0 from by decide) (by decide) (by decide) (by decide) dX12_init_175 (fun H hn => ?_)
  refine n_put cn hn tyX12 tyX12_ok nmX12 12 27 202 rfl zin_12 (by decide) (by decide) (show kt 181 = 12 + 3 from by decide) (by omega) (Or.inl rfl) (by decide) rfl (Or.inr ⟨_, rfl⟩) fl_X12_70 dX12_init_177 (fun H locs hn => ?_)
  refine lv_aload_n cn.1 cn.2.1 dX12_init_180 rfl (lv_at hl 0 rfl) ?_
  refine lv_bipush (v := ii 35) cn.1 cn.2.1 dX12_init_181 (by decide) ?_
  refine n_newa cn hn (by decide) (show kt 203 = 0 from by decide) (by decide) (by decide) (by decide) dX12_init_183 (fun H hn => ?_)
  refine n_put cn hn tyX12 tyX12_ok nmX12 12 28 203 rfl zin_12 (by decide) (by decide) (show kt 181 = 12 + 3 from by decide) (by omega) (Or.inl rfl) (by decide) rfl (Or.inr ⟨_, rfl⟩) fl_X12_73 dX12_init_185 (fun H locs hn => ?_)
  refine lv_aload_n cn.1 cn.2.1 dX12_init_188 rfl (lv_at hl 0 rfl) ?_
  refine lv_bipush (v := ii 35) cn.1 cn.2.1 dX12_init_189 (by decide) ?_
  refine n_newa cn hn (by decide) (show kt 204 = 0 from by decide) (by decide) (by decide) (by decide) dX12_init_191 (fun H hn => ?_)
  refine n_put cn hn tyX12 tyX12_ok nmX12 12 29 204 rfl zin_12 (by decide) (by decide) (show kt 181 = 12 + 3 from by decide) (by omega) (Or.inl rfl) (by decide) rfl (Or.inr ⟨_, rfl⟩) fl_X12_76 dX12_init_193 (fun H locs hn => ?_)
  refine lv_aload_n cn.1 cn.2.1 dX12_init_196 rfl (lv_at hl 0 rfl) ?_
  refine lv_iconst (v := ii 5) cn.1 cn.2.1 dX12_init_197 (by decide) ?_
  refine n_newa cn hn (by decide) (show kt 205 = 0 from by decide) (by decide) (by decide) (by decide) dX12_init_198 (fun H hn => ?_)
  refine n_put cn hn tyX12 tyX12_ok nmX12 12 30 205 rfl zin_12 (by decide) (by decide) (show kt 181 = 12 + 3 from by decide) (by omega) (Or.inl rfl) (by decide) rfl (Or.inr ⟨_, rfl⟩) fl_X12_79 dX12_init_200 (fun H locs hn => ?_)
  refine lv_aload_n cn.1 cn.2.1 dX12_init_203 rfl (lv_at hl 0 rfl) ?_
  refine lv_bipush (v := ii 49) cn.1 cn.2.1 dX12_init_204 (by decide) ?_
  refine n_newa cn hn (by decide) (show kt 206 = 0 from by decide) (by decide) (by decide) (by decide) dX12_init_206 (fun H hn => ?_)
  refine n_put cn hn tyX12 tyX12_ok nmX12 12 41 206 rfl zin_12 (by decide) (by decide) (show kt 181 = 12 + 3 from by decide) (by omega) (Or.inl rfl) (by decide) rfl (Or.inr ⟨_, rfl⟩) fl_X12_82 dX12_init_208 (fun H locs hn => ?_)
  refine lv_aload_n cn.1 cn.2.1 dX12_init_211 rfl (lv_at hl 0 rfl) ?_
  refine lv_bipush (v := ii 7) cn.1 cn.2.1 dX12_init_212 (by decide) ?_
  refine n_newa cn hn (by decide) (show kt 207 = 0 from by decide) (by decide) (by decide) (by decide) dX12_init_214 (fun H hn => ?_)
  refine n_put cn hn tyX12 tyX12_ok nmX12 12 42 207 rfl zin_12 (by decide) (by decide) (show kt 181 = 12 + 3 from by decide) (by omega) (Or.inl rfl) (by decide) rfl (Or.inr ⟨_, rfl⟩) fl_X12_85 dX12_init_216 (fun H locs hn => ?_)
  refine lv_aload_n cn.1 cn.2.1 dX12_init_219 rfl (lv_at hl 0 rfl) ?_
  refine lv_bipush (v := ii 7) cn.1 cn.2.1 dX12_init_220 (by decide) ?_
  refine n_newa cn hn (by decide) (show kt 208 = 0 from by decide) (by decide) (by decide) (by decide) dX12_init_222 (fun H hn => ?_)
  refine n_put cn hn tyX12 tyX12_ok nmX12 12 44 208 rfl zin_12 (by decide) (by decide) (show kt 181 = 12 + 3 from by decide) (by omega) (Or.inl rfl) (by decide) rfl (Or.inr ⟨_, rfl⟩) fl_X12_88 dX12_init_224 (fun H locs hn => ?_)
  refine lv_aload_n cn.1 cn.2.1 dX12_init_227 rfl (lv_at hl 0 rfl) ?_
  refine lv_bipush (v := ii 7) cn.1 cn.2.1 dX12_init_228 (by decide) ?_
  refine n_newa cn hn (by decide) (show kt 209 = 0 from by decide) (by decide) (by decide) (by decide) dX12_init_230 (fun H hn => ?_)
  refine n_put cn hn tyX12 tyX12_ok nmX12 12 45 209 rfl zin_12 (by decide) (by decide) (show kt 181 = 12 + 3 from by decide) (by omega) (Or.inl rfl) (by decide) rfl (Or.inr ⟨_, rfl⟩) fl_X12_91 dX12_init_232 (fun H locs hn => ?_)
  refine lv_aload_n cn.1 cn.2.1 dX12_init_235 rfl (lv_at hl 0 rfl) ?_
  refine lv_bipush (v := ii 7) cn.1 cn.2.1 dX12_init_236 (by decide) ?_
  refine n_newa cn hn (by decide) (show kt 210 = 0 from by decide) (by decide) (by decide) (by decide) dX12_init_238 (fun H hn => ?_)
  refine n_put cn hn tyX12 tyX12_ok nmX12 12 46 210 rfl zin_12 (by decide) (by decide) (show kt 181 = 12 + 3 from by decide) (by omega) (Or.inl rfl) (by decide) rfl (Or.inr ⟨_, rfl⟩) fl_X12_94 dX12_init_240 (fun H locs hn => ?_)
  refine lv_aload_n cn.1 cn.2.1 dX12_init_243 rfl (lv_at hl 0 rfl) ?_
  refine lv_bipush (v := ii 7) cn.1 cn.2.1 dX12_init_244 (by decide) ?_
  refine n_newa cn hn (by decide) (show kt 211 = 0 from by decide) (by decide) (by decide) (by decide) dX12_init_246 (fun H hn => ?_)
  refine n_put cn hn tyX12 tyX12_ok nmX12 12 48 211 rfl zin_12 (by decide) (by decide) (show kt 181 = 12 + 3 from by decide) (by omega) (Or.inl rfl) (by decide) rfl (Or.inr ⟨_, rfl⟩) fl_X12_97 dX12_init_248 (fun H locs hn => ?_)
  refine lv_aload_n cn.1 cn.2.1 dX12_init_251 rfl (lv_at hl 0 rfl) ?_
  refine lv_bipush (v := ii 7) cn.1 cn.2.1 dX12_init_252 (by decide) ?_
  refine n_newa cn hn (by decide) (show kt 212 = 0 from by decide) (by decide) (by decide) (by decide) dX12_init_254 (fun H hn => ?_)
  refine n_put cn hn tyX12 tyX12_ok nmX12 12 49 212 rfl zin_12 (by decide) (by decide) (show kt 181 = 12 + 3 from by decide) (by omega) (Or.inl rfl) (by decide) rfl (Or.inr ⟨_, rfl⟩) fl_X12_100 dX12_init_256 (fun H locs hn => ?_)
  refine lv_aload_n cn.1 cn.2.1 dX12_init_259 rfl (lv_at hl 0 rfl) ?_
  refine lv_sipush (v := ii 196) cn.1 cn.2.1 dX12_init_260 (by decide) ?_
  refine n_newa cn hn (by decide) (show kt 213 = 0 from by decide) (by decide) (by decide) (by decide) dX12_init_263 (fun H hn => ?_)
  refine n_put cn hn tyX12 tyX12_ok nmX12 12 50 213 rfl zin_12 (by decide) (by decide) (show kt 181 = 12 + 3 from by decide) (by omega) (Or.inl rfl) (by decide) rfl (Or.inr ⟨_, rfl⟩) fl_X12_103 dX12_init_265 (fun H locs hn => ?_)
  refine lv_aload_n cn.1 cn.2.1 dX12_init_268 rfl (lv_at hl 0 rfl) ?_
  refine lv_sipush (v := ii 196) cn.1 cn.2.1 dX12_init_269 (by decide) ?_
  refine n_newa cn hn (by decide) (show kt 214 = 0 from by decide) (by decide) (by decide) (by decide) dX12_init_272 (fun H hn => ?_)
  refine n_put cn hn tyX12 tyX12_ok nmX12 12 51 214 rfl zin_12 (by decide) (by decide) (show kt 181 = 12 + 3 from by decide) (by omega) (Or.inl rfl) (by decide) rfl (Or.inr ⟨_, rfl⟩) fl_X12_106 dX12_init_274 (fun H locs hn => ?_)
  refine lv_aload_n cn.1 cn.2.1 dX12_init_277 rfl (lv_at hl 0 rfl) ?_
  refine lv_sipush (v := ii 300) cn.1 cn.2.1 dX12_init_278 (by decide) ?_
  refine n_newa cn hn (by decide) (show kt 215 = 0 from by decide) (by decide) (by decide) (by decide) dX12_init_281 (fun H hn => ?_)
  refine n_put cn hn tyX12 tyX12_ok nmX12 12 52 215 rfl zin_12 (by decide) (by decide) (show kt 181 = 12 + 3 from by decide) (by omega) (Or.inl rfl) (by decide) rfl (Or.inr ⟨_, rfl⟩) fl_X12_109 dX12_init_283 (fun H locs hn => ?_)
  refine lv_aload_n cn.1 cn.2.1 dX12_init_286 rfl (lv_at hl 0 rfl) ?_
  refine lv_bipush (v := ii 7) cn.1 cn.2.1 dX12_init_287 (by decide) ?_
  refine n_newa cn hn (by decide) (show kt 216 = 0 from by decide) (by decide) (by decide) (by decide) dX12_init_289 (fun H hn => ?_)
  refine n_put cn hn tyX12 tyX12_ok nmX12 12 54 216 rfl zin_12 (by decide) (by decide) (show kt 181 = 12 + 3 from by decide) (by omega) (Or.inl rfl) (by decide) rfl (Or.inr ⟨_, rfl⟩) fl_X12_112 dX12_init_291 (fun H locs hn => ?_)
  refine W.widen (k := 35) (n := 8840) (by omega) (by decide) ?_
  refine n_vret (n0 := 181 + 1) cn hn rfl (he_gen ?_ ?_) dX12_init_294
  · intro c k hc
    refine (if_neg (by omega)).trans ?_
    refine (if_neg (by omega)).trans ?_
    refine (if_neg (by omega)).trans ?_
    refine (if_neg (by omega)).trans ?_
    refine (if_neg (by omega)).trans ?_
    refine (if_neg (by omega)).trans ?_
    refine (if_neg (by omega)).trans ?_
    refine (if_neg (by omega)).trans ?_
    refine (if_neg (by omega)).trans ?_
    refine (if_neg (by omega)).trans ?_
    refine (if_neg (by omega)).trans ?_
    refine (if_neg (by omega)).trans ?_
    refine (if_neg (by omega)).trans ?_
    refine (if_neg (by omega)).trans ?_
    refine (if_neg (by omega)).trans ?_
    refine (if_neg (by omega)).trans ?_
    refine (if_neg (by omega)).trans ?_
    refine (if_neg (by omega)).trans ?_
    refine (if_neg (by omega)).trans ?_
    refine (if_neg (by omega)).trans ?_
    refine (if_neg (by omega)).trans ?_
    refine (if_neg (by omega)).trans ?_
    refine (if_neg (by omega)).trans ?_
    refine (if_neg (by omega)).trans ?_
    refine (if_neg (by omega)).trans ?_
    refine (if_neg (by omega)).trans ?_
    refine (if_neg (by omega)).trans ?_
    refine (if_neg (by omega)).trans ?_
    refine (if_neg (by omega)).trans ?_
    refine (if_neg (by omega)).trans ?_
    refine (if_neg (by omega)).trans ?_
    refine (if_neg (by omega)).trans ?_
    refine (if_neg (by omega)).trans ?_
    refine (if_neg (by omega)).trans ?_
    refine (if_neg (by omega)).trans ?_
    refine (if_neg (by omega)).trans ?_
    refine (if_neg (by omega)).trans ?_
    refine (if_neg (by omega)).trans ?_
    refine (if_neg (by omega)).trans ?_
    refine (if_neg (by omega)).trans ?_
    refine (if_neg (by omega)).trans ?_
    refine (if_neg (by omega)).trans ?_
    refine (if_neg (by omega)).trans ?_
    refine (if_neg (by omega)).trans ?_
    refine (if_neg (by omega)).trans ?_
    refine (if_neg (by omega)).trans ?_
    refine (if_neg (by omega)).trans ?_
    refine (if_neg (by omega)).trans ?_
    refine (if_neg (by omega)).trans ?_
    refine (if_neg (by omega)).trans ?_
    refine (if_neg (by omega)).trans ?_
    refine (if_neg (by omega)).trans ?_
    refine (if_neg (by omega)).trans ?_
    refine (if_neg (by omega)).trans ?_
    refine (if_neg (by omega)).trans ?_
    refine (if_neg (by omega)).trans ?_
    refine (if_neg (by omega)).trans ?_
    refine (if_neg (by omega)).trans ?_
    refine (if_neg (by omega)).trans ?_
    refine (if_neg (by omega)).trans ?_
    refine (if_neg (by omega)).trans ?_
    refine (if_neg (by omega)).trans ?_
    refine (if_neg (by omega)).trans ?_
    refine (if_neg (by omega)).trans ?_
    refine (if_neg (by omega)).trans ?_
    refine (if_neg (by omega)).trans ?_
    refine (if_neg (by omega)).trans ?_
    refine (if_neg (by omega)).trans ?_
    refine (if_neg (by omega)).trans ?_
    refine (if_neg (by omega)).trans ?_
    exact if_neg (by omega)
  · intro c k h1 h2 hv
    obtain ⟨n1, hv⟩ := zlp1 hv
    obtain ⟨n2, hv⟩ := zlp1 hv
    obtain ⟨n3, hv⟩ := zlp1 hv
    obtain ⟨n4, hv⟩ := zlp1 hv
    obtain ⟨n5, hv⟩ := zlp1 hv
    obtain ⟨n6, hv⟩ := zlp1 hv
    obtain ⟨n7, hv⟩ := zlp1 hv
    obtain ⟨n8, hv⟩ := zlp1 hv
    obtain ⟨n9, hv⟩ := zlp1 hv
    obtain ⟨n10, hv⟩ := zlp1 hv
    obtain ⟨n11, hv⟩ := zlp1 hv
    obtain ⟨n12, hv⟩ := zlp1 hv
    obtain ⟨n13, hv⟩ := zlp1 hv
    obtain ⟨n14, hv⟩ := zlp1 hv
    obtain ⟨n15, hv⟩ := zlp1 hv
    obtain ⟨n16, hv⟩ := zlp1 hv
    obtain ⟨n17, hv⟩ := zlp1 hv
    obtain ⟨n18, hv⟩ := zlp1 hv
    obtain ⟨n19, hv⟩ := zlp1 hv
    obtain ⟨n20, hv⟩ := zlp1 hv
    obtain ⟨n21, hv⟩ := zlp1 hv
    obtain ⟨n22, hv⟩ := zlp1 hv
    obtain ⟨n23, hv⟩ := zlp1 hv
    obtain ⟨n24, hv⟩ := zlp1 hv
    obtain ⟨n25, hv⟩ := zlp1 hv
    obtain ⟨n26, hv⟩ := zlp1 hv
    obtain ⟨n27, hv⟩ := zlp1 hv
    obtain ⟨n28, hv⟩ := zlp1 hv
    obtain ⟨n29, hv⟩ := zlp1 hv
    obtain ⟨n30, hv⟩ := zlp1 hv
    obtain ⟨n31, hv⟩ := zlp1 hv
    obtain ⟨n32, hv⟩ := zlp1 hv
    obtain ⟨n33, hv⟩ := zlp1 hv
    obtain ⟨n34, hv⟩ := zlp1 hv
    obtain ⟨n35, hv⟩ := zlp1 hv
    obtain ⟨n36, hv⟩ := zlp1 hv
    obtain ⟨n37, hv⟩ := zlp1 hv
    obtain ⟨n38, hv⟩ := zlp1 hv
    obtain ⟨n39, hv⟩ := zlp1 hv
    obtain ⟨n40, hv⟩ := zlp1 hv
    obtain ⟨n41, hv⟩ := zlp1 hv
    obtain ⟨n42, hv⟩ := zlp1 hv
    obtain ⟨n43, hv⟩ := zlp1 hv
    obtain ⟨n44, hv⟩ := zlp1 hv
    obtain ⟨n45, hv⟩ := zlp1 hv
    obtain ⟨n46, hv⟩ := zlp1 hv
    obtain ⟨n47, hv⟩ := zlp1 hv
    obtain ⟨n48, hv⟩ := zlp1 hv
    obtain ⟨n49, hv⟩ := zlp1 hv
    obtain ⟨n50, hv⟩ := zlp1 hv
    obtain ⟨n51, hv⟩ := zlp1 hv
    obtain ⟨n52, hv⟩ := zlp1 hv
    obtain ⟨n53, hv⟩ := zlp1 hv
    obtain ⟨n54, hv⟩ := zlp1 hv
    obtain ⟨n55, hv⟩ := zlp1 hv
    obtain ⟨n56, hv⟩ := zlp1 hv
    obtain ⟨n57, hv⟩ := zlp1 hv
    obtain ⟨n58, hv⟩ := zlp1 hv
    obtain ⟨n59, hv⟩ := zlp1 hv
    obtain ⟨n60, hv⟩ := zlp1 hv
    obtain ⟨n61, hv⟩ := zlp1 hv
    obtain ⟨n62, hv⟩ := zlp1 hv
    obtain ⟨n63, hv⟩ := zlp1 hv
    obtain ⟨n64, hv⟩ := zlp1 hv
    obtain ⟨n65, hv⟩ := zlp1 hv
    obtain ⟨n66, hv⟩ := zlp1 hv
    obtain ⟨n67, hv⟩ := zlp1 hv
    obtain ⟨n68, hv⟩ := zlp1 hv
    obtain ⟨n69, hv⟩ := zlp1 hv
    obtain ⟨n70, hv⟩ := zlp1 hv
    rcases zlp2 hv with ⟨e0, hv⟩ | ⟨e0, hv⟩
    · exact lfx e0 (lf_12 181 (by decide) k ⟨(fun z => n69 ⟨e0, z⟩), (fun z => n67 ⟨e0, z⟩), (fun z => n65 ⟨e0, z⟩), (fun z => n63 ⟨e0, z⟩), (fun z => n61 ⟨e0, z⟩), (fun z => n59 ⟨e0, z⟩), (fun z => n57 ⟨e0, z⟩), (fun z => n55 ⟨e0, z⟩), (fun z => n53 ⟨e0, z⟩), (fun z => n51 ⟨e0, z⟩), (fun z => n49 ⟨e0, z⟩), (fun z => n47 ⟨e0, z⟩), (fun z => n45 ⟨e0, z⟩), (fun z => n43 ⟨e0, z⟩), (fun z => n41 ⟨e0, z⟩), (fun z => n39 ⟨e0, z⟩), (fun z => n37 ⟨e0, z⟩), (fun z => n35 ⟨e0, z⟩), (fun z => n33 ⟨e0, z⟩), (fun z => n31 ⟨e0, z⟩), (fun z => n29 ⟨e0, z⟩), (fun z => n27 ⟨e0, z⟩), (fun z => n25 ⟨e0, z⟩), (fun z => n23 ⟨e0, z⟩), (fun z => n21 ⟨e0, z⟩), (fun z => n19 ⟨e0, z⟩), (fun z => n17 ⟨e0, z⟩), (fun z => n15 ⟨e0, z⟩), (fun z => n13 ⟨e0, z⟩), (fun z => n11 ⟨e0, z⟩), (fun z => n9 ⟨e0, z⟩), (fun z => n7 ⟨e0, z⟩), (fun z => n5 ⟨e0, z⟩), (fun z => n3 ⟨e0, z⟩), (fun z => n1 ⟨e0, z⟩)⟩) hv
    · have g1 : 182 ≤ c := Nat.lt_of_le_of_ne h1 (fun z => e0 z.symm)
      have g2 : 183 ≤ c := Nat.lt_of_le_of_ne g1 (fun z => n70 z.symm)
      have g3 : 184 ≤ c := Nat.lt_of_le_of_ne g2 (fun z => n68 z.symm)
      have g4 : 185 ≤ c := Nat.lt_of_le_of_ne g3 (fun z => n66 z.symm)
      have g5 : 186 ≤ c := Nat.lt_of_le_of_ne g4 (fun z => n64 z.symm)
      have g6 : 187 ≤ c := Nat.lt_of_le_of_ne g5 (fun z => n62 z.symm)
      have g7 : 188 ≤ c := Nat.lt_of_le_of_ne g6 (fun z => n60 z.symm)
      have g8 : 189 ≤ c := Nat.lt_of_le_of_ne g7 (fun z => n58 z.symm)
      have g9 : 190 ≤ c := Nat.lt_of_le_of_ne g8 (fun z => n56 z.symm)
      have g10 : 191 ≤ c := Nat.lt_of_le_of_ne g9 (fun z => n54 z.symm)
      have g11 : 192 ≤ c := Nat.lt_of_le_of_ne g10 (fun z => n52 z.symm)
      have g12 : 193 ≤ c := Nat.lt_of_le_of_ne g11 (fun z => n50 z.symm)
      have g13 : 194 ≤ c := Nat.lt_of_le_of_ne g12 (fun z => n48 z.symm)
      have g14 : 195 ≤ c := Nat.lt_of_le_of_ne g13 (fun z => n46 z.symm)
      have g15 : 196 ≤ c := Nat.lt_of_le_of_ne g14 (fun z => n44 z.symm)
      have g16 : 197 ≤ c := Nat.lt_of_le_of_ne g15 (fun z => n42 z.symm)
      have g17 : 198 ≤ c := Nat.lt_of_le_of_ne g16 (fun z => n40 z.symm)
      have g18 : 199 ≤ c := Nat.lt_of_le_of_ne g17 (fun z => n38 z.symm)
      have g19 : 200 ≤ c := Nat.lt_of_le_of_ne g18 (fun z => n36 z.symm)
      have g20 : 201 ≤ c := Nat.lt_of_le_of_ne g19 (fun z => n34 z.symm)
      have g21 : 202 ≤ c := Nat.lt_of_le_of_ne g20 (fun z => n32 z.symm)
      have g22 : 203 ≤ c := Nat.lt_of_le_of_ne g21 (fun z => n30 z.symm)
      have g23 : 204 ≤ c := Nat.lt_of_le_of_ne g22 (fun z => n28 z.symm)
      have g24 : 205 ≤ c := Nat.lt_of_le_of_ne g23 (fun z => n26 z.symm)
      have g25 : 206 ≤ c := Nat.lt_of_le_of_ne g24 (fun z => n24 z.symm)
      have g26 : 207 ≤ c := Nat.lt_of_le_of_ne g25 (fun z => n22 z.symm)
      have g27 : 208 ≤ c := Nat.lt_of_le_of_ne g26 (fun z => n20 z.symm)
      have g28 : 209 ≤ c := Nat.lt_of_le_of_ne g27 (fun z => n18 z.symm)
      have g29 : 210 ≤ c := Nat.lt_of_le_of_ne g28 (fun z => n16 z.symm)
      have g30 : 211 ≤ c := Nat.lt_of_le_of_ne g29 (fun z => n14 z.symm)
      have g31 : 212 ≤ c := Nat.lt_of_le_of_ne g30 (fun z => n12 z.symm)
      have g32 : 213 ≤ c := Nat.lt_of_le_of_ne g31 (fun z => n10 z.symm)
      have g33 : 214 ≤ c := Nat.lt_of_le_of_ne g32 (fun z => n8 z.symm)
      have g34 : 215 ≤ c := Nat.lt_of_le_of_ne g33 (fun z => n6 z.symm)
      have g35 : 216 ≤ c := Nat.lt_of_le_of_ne g34 (fun z => n4 z.symm)
      have g36 : 217 ≤ c := Nat.lt_of_le_of_ne g35 (fun z => n2 z.symm)
      exact absurd h2 (Nat.not_lt.mpr g36)
