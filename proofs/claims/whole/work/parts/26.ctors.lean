theorem nd_0 (B n : Nat) (hk : kt n = 0 + 3) : ∀ j, j < 6 → defaultValue (tyX0 j) = svv B (zfk 0 j n) (if isR n j = true then -1 else 0) := by
  intro j hj
  unfold isR
  rw [zsk_obj hk]
  match j, hj with
  | 0, _ => rfl
  | 1, _ => rfl
  | 2, _ => rfl
  | 3, _ => rfl
  | 4, _ => rfl
  | 5, _ => rfl
  | j + 6, hj => exact absurd hj (by omega)
theorem nd_1 (B n : Nat) (hk : kt n = 1 + 3) : ∀ j, j < 2 → defaultValue (tyX1 j) = svv B (zfk 1 j n) (if isR n j = true then -1 else 0) := by
  intro j hj
  unfold isR
  rw [zsk_obj hk]
  match j, hj with
  | 0, _ => rfl
  | 1, _ => rfl
  | j + 2, hj => exact absurd hj (by omega)
theorem nd_2 (B n : Nat) (hk : kt n = 2 + 3) : ∀ j, j < 5 → defaultValue (tyX2 j) = svv B (zfk 2 j n) (if isR n j = true then -1 else 0) := by
  intro j hj
  unfold isR
  rw [zsk_obj hk]
  match j, hj with
  | 0, _ => rfl
  | 1, _ => rfl
  | 2, _ => rfl
  | 3, _ => rfl
  | 4, _ => rfl
  | j + 5, hj => exact absurd hj (by omega)
theorem nd_3 (B n : Nat) (hk : kt n = 3 + 3) : ∀ j, j < 4 → defaultValue (tyX3 j) = svv B (zfk 3 j n) (if isR n j = true then -1 else 0) := by
  intro j hj
  unfold isR
  rw [zsk_obj hk]
  match j, hj with
  | 0, _ => rfl
  | 1, _ => rfl
  | 2, _ => rfl
  | 3, _ => rfl
  | j + 4, hj => exact absurd hj (by omega)
theorem nd_4 (B n : Nat) (hk : kt n = 4 + 3) : ∀ j, j < 10 → defaultValue (tyX4 j) = svv B (zfk 4 j n) (if isR n j = true then -1 else 0) := by
  intro j hj
  unfold isR
  rw [zsk_obj hk]
  match j, hj with
  | 0, _ => rfl
  | 1, _ => rfl
  | 2, _ => rfl
  | 3, _ => rfl
  | 4, _ => rfl
  | 5, _ => rfl
  | 6, _ => rfl
  | 7, _ => rfl
  | 8, _ => rfl
  | 9, _ => rfl
  | j + 10, hj => exact absurd hj (by omega)
theorem nd_5 (B n : Nat) (hk : kt n = 5 + 3) : ∀ j, j < 5 → defaultValue (tyX5 j) = svv B (zfk 5 j n) (if isR n j = true then -1 else 0) := by
  intro j hj
  unfold isR
  rw [zsk_obj hk]
  match j, hj with
  | 0, _ => rfl
  | 1, _ => rfl
  | 2, _ => rfl
  | 3, _ => rfl
  | 4, _ => rfl
  | j + 5, hj => exact absurd hj (by omega)
theorem nd_6 (B n : Nat) (hk : kt n = 6 + 3) : ∀ j, j < 6 → defaultValue (tyX6 j) = svv B (zfk 6 j n) (if isR n j = true then -1 else 0) := by
  intro j hj
  unfold isR
  rw [zsk_obj hk]
  match j, hj with
  | 0, _ => rfl
  | 1, _ => rfl
  | 2, _ => rfl
  | 3, _ => rfl
  | 4, _ => rfl
  | 5, _ => rfl
  | j + 6, hj => exact absurd hj (by omega)
theorem nd_7 (B n : Nat) (hk : kt n = 7 + 3) : ∀ j, j < 15 → defaultValue (tyX7 j) = svv B (zfk 7 j n) (if isR n j = true then -1 else 0) := by
  intro j hj
  unfold isR
  rw [zsk_obj hk]
  match j, hj with
  | 0, _ => rfl
  | 1, _ => rfl
  | 2, _ => rfl
  | 3, _ => rfl
  | 4, _ => rfl
  | 5, _ => rfl
  | 6, _ => rfl
  | 7, _ => rfl
  | 8, _ => rfl
  | 9, _ => rfl
  | 10, _ => rfl
  | 11, _ => rfl
  | 12, _ => rfl
  | 13, _ => rfl
  | 14, _ => rfl
  | j + 15, hj => exact absurd hj (by omega)
theorem nd_8 (B n : Nat) (hk : kt n = 8 + 3) : ∀ j, j < 4 → defaultValue (tyX8 j) = svv B (zfk 8 j n) (if isR n j = true then -1 else 0) := by
  intro j hj
  unfold isR
  rw [zsk_obj hk]
  match j, hj with
  | 0, _ => rfl
  | 1, _ => rfl
  | 2, _ => rfl
  | 3, _ => rfl
  | j + 4, hj => exact absurd hj (by omega)
theorem nd_9 (B n : Nat) (hk : kt n = 9 + 3) : ∀ j, j < 6 → defaultValue (tyX9 j) = svv B (zfk 9 j n) (if isR n j = true then -1 else 0) := by
  intro j hj
  unfold isR
  rw [zsk_obj hk]
  match j, hj with
  | 0, _ => rfl
  | 1, _ => rfl
  | 2, _ => rfl
  | 3, _ => rfl
  | 4, _ => rfl
  | 5, _ => rfl
  | j + 6, hj => exact absurd hj (by omega)
theorem nd_10 (B n : Nat) (hk : kt n = 10 + 3) : ∀ j, j < 9 → defaultValue (tyX10 j) = svv B (zfk 10 j n) (if isR n j = true then -1 else 0) := by
  intro j hj
  unfold isR
  rw [zsk_obj hk]
  match j, hj with
  | 0, _ => rfl
  | 1, _ => rfl
  | 2, _ => rfl
  | 3, _ => rfl
  | 4, _ => rfl
  | 5, _ => rfl
  | 6, _ => rfl
  | 7, _ => rfl
  | 8, _ => rfl
  | j + 9, hj => exact absurd hj (by omega)
theorem nd_11 (B n : Nat) (hk : kt n = 11 + 3) : ∀ j, j < 16 → defaultValue (tyX11 j) = svv B (zfk 11 j n) (if isR n j = true then -1 else 0) := by
  intro j hj
  unfold isR
  rw [zsk_obj hk]
  match j, hj with
  | 0, _ => rfl
  | 1, _ => rfl
  | 2, _ => rfl
  | 3, _ => rfl
  | 4, _ => rfl
  | 5, _ => rfl
  | 6, _ => rfl
  | 7, _ => rfl
  | 8, _ => rfl
  | 9, _ => rfl
  | 10, _ => rfl
  | 11, _ => rfl
  | 12, _ => rfl
  | 13, _ => rfl
  | 14, _ => rfl
  | 15, _ => rfl
  | j + 16, hj => exact absurd hj (by omega)
theorem nd_12 (B n : Nat) (hk : kt n = 12 + 3) : ∀ j, j < 55 → defaultValue (tyX12 j) = svv B (zfk 12 j n) (if isR n j = true then -1 else 0) := by
  intro j hj
  unfold isR
  rw [zsk_obj hk]
  match j, hj with
  | 0, _ => rfl
  | 1, _ => rfl
  | 2, _ => rfl
  | 3, _ => rfl
  | 4, _ => rfl
  | 5, _ => rfl
  | 6, _ => rfl
  | 7, _ => rfl
  | 8, _ => rfl
  | 9, _ => rfl
  | 10, _ => rfl
  | 11, _ => rfl
  | 12, _ => rfl
  | 13, _ => rfl
  | 14, _ => rfl
  | 15, _ => rfl
  | 16, _ => rfl
  | 17, _ => rfl
  | 18, _ => rfl
  | 19, _ => rfl
  | 20, _ => rfl
  | 21, _ => rfl
  | 22, _ => rfl
  | 23, _ => rfl
  | 24, _ => rfl
  | 25, _ => rfl
  | 26, _ => rfl
  | 27, _ => rfl
  | 28, _ => rfl
  | 29, _ => rfl
  | 30, _ => rfl
  | 31, _ => rfl
  | 32, _ => rfl
  | 33, _ => rfl
  | 34, _ => rfl
  | 35, _ => rfl
  | 36, _ => rfl
  | 37, _ => rfl
  | 38, _ => rfl
  | 39, _ => rfl
  | 40, _ => rfl
  | 41, _ => rfl
  | 42, _ => rfl
  | 43, _ => rfl
  | 44, _ => rfl
  | 45, _ => rfl
  | 46, _ => rfl
  | 47, _ => rfl
  | 48, _ => rfl
  | 49, _ => rfl
  | 50, _ => rfl
  | 51, _ => rfl
  | 52, _ => rfl
  | 53, _ => rfl
  | 54, _ => rfl
  | j + 55, hj => exact absurd hj (by omega)
theorem he_gen {u v : Nat → Nat → Bool} {n N : Nat} (h1 : ∀ c k, c < n → v c k = u c k) (h2 : ∀ c k, n ≤ c → c < N → v c k = true → hFin c k = -1) : ∀ c, c < N → hB v c = hB (fun c k => if c < n then u c k else false) c := by
  intro c hc
  funext k
  unfold hB
  rcases Nat.lt_or_ge c n with q | q
  · simp only [if_pos q, h1 c k q]
  · simp only [if_neg (show ¬ c < n by omega)]
    by_cases hv : v c k = true
    · rw [if_pos hv, h2 c k q hc hv]; rfl
    · rw [if_neg hv]; rfl
theorem dX1_init_0 : decode cX1_init 0 = .ok (.aload_n 0, 1) := by decide +kernel
theorem dX1_init_1 : decode cX1_init 1 = .ok (.invokespecial 3, 3) := by decide +kernel
theorem dX1_init_4 : decode cX1_init 4 = .ok (.aload_n 0, 1) := by decide +kernel
theorem dX1_init_5 : decode cX1_init 5 = .ok (.iload_n 1, 1) := by decide +kernel
theorem dX1_init_6 : decode cX1_init 6 = .ok (.iconst 0, 1) := by decide +kernel
theorem dX1_init_7 : decode cX1_init 7 = .ok (.invokestatic 9, 3) := by decide +kernel
theorem dX1_init_10 : decode cX1_init 10 = .ok (.newarray .int, 2) := by decide +kernel
theorem dX1_init_12 : decode cX1_init 12 = .ok (.putfield 15, 3) := by decide +kernel
theorem dX1_init_15 : decode cX1_init 15 = .ok (.return_, 1) := by decide +kernel
theorem zl_1 : ∀ n, n < 217 → kt n = 4 → kt (n + 1) = 0 := by decide +kernel
theorem lf_1 (a : Nat) (hk : kt a = 1 + 3) : ∀ k, (k ≠ 0) → isR a k = true → hFin a k = -1 := by
  intro k hne h
  unfold isR at h
  unfold hFin
  rw [zsk_obj hk] at h ⊢
  match k, hne, h with
  | 0, hne, _ => exact absurd hne (by omega)
  | 1, _, h => exact Bool.noConfusion h
  | k + 2, _, h => exact Bool.noConfusion h
set_option maxHeartbeats 8000000 in
set_option maxRecDepth 100000 in
theorem kX1_init (l : Launch) (g : zG) (B : Nat) (u : Nat → Nat → Bool) (n : Nat) (hk : kt n = 1 + 3) (w : Nat) (hkl : kl (n + 1) = w) : CTn l g B yX1_init cX1_init 2 1 1 w [.ref (B + n), .int (ii (w : Int))] (fun c k => if c = n then isR c k else u c k) (n + 1) (fun c k => if c < n then u c k else false) := by
  refine n_enter (by decide) rfl rfl (Nat.le_of_ble_eq_true rfl) ?_
  intro p e s m args below meth c ls cn hn hl
  have hl : lv_has ls 2 [(0, .ref (B + n)), (1, .int (ii (w : Int)))] := hl
  have hq : rng (w : Int) := by have := kl_rng (n + 1) (kt_lt (zl_1 n (kt_lt hk (by decide)) hk) (by decide)); constructor <;> omega
  refine lv_aload_n cn.1 cn.2.1 dX1_init_0 rfl (lv_at hl 0 rfl) ?_
  refine W.objInit cn.1 cn.2.1 cn.2.2.2.1 (cn.2.2.2.2.1 _ mo_X1) (cn.2.2.2.2.1 _ zw_oi.1) (cn.2.2.2.2.1 _ zw_oi.2) rfl (hl.1.trans cn.2.2.1.symm) rfl dX1_init_1 (by decide) (Nat.le_of_ble_eq_true rfl) ?_
  refine lv_aload_n cn.1 cn.2.1 dX1_init_4 rfl (lv_at hl 0 rfl) ?_
  refine lv_iload_n cn.1 cn.2.1 dX1_init_5 rfl (lv_at hl 1 rfl) ?_
  refine lv_iconst (v := ii 0) cn.1 cn.2.1 dX1_init_6 (by decide) ?_
  refine va_mmax cn.1 cn.2.1 (cn.2.2.1.trans hl.1.symm) cn.2.2.2.1 (cn.2.2.2.2.1 _ mx_X1_9.1) (cn.2.2.2.2.1 _ mx_X1_9.2.1) (cn.2.2.2.2.1 _ mx_X1_9.2.2.1) (cn.2.2.2.2.1 _ mx_X1_9.2.2.2) (by decide) (Nat.le_of_ble_eq_true rfl) (Nat.zero_le _) (Nat.zero_le _) dX1_init_7 ?_
  rw [if_neg (fun z => by have := (ii_lt hq rng_0).mp z; omega)]
  refine n_newa cn hn hq (zl_1 n (kt_lt hk (by decide)) hk) (by rw [hkl]) (by decide) (by rw [hkl]; exact Nat.le_of_eq (Nat.zero_add _)) dX1_init_10 (fun H hn => ?_)
  rw [hkl]
  refine n_put cn hn tyX1 tyX1_ok nmX1 1 0 (n + 1) rfl zin_1 (by decide) (by decide) hk (by omega) (Or.inl rfl) (hFin_s hk rfl) rfl (Or.inr ⟨_, rfl⟩) fl_X1_15 dX1_init_12 (fun H locs hn => ?_)
  refine W.widen (k := 1) (n := w) (by omega) (by omega) ?_
  refine n_vret (n0 := n + 1) cn hn rfl (he_gen ?_ ?_) dX1_init_15
  · intro c k hc
    dsimp only
    repeat (first | rw [if_neg (by omega)] | rw [if_pos (by omega)])
  · intro c k h1 h2 hv
    dsimp only at hv
    repeat' (split at hv)
    all_goals first | exact Bool.noConfusion hv | (exfalso; omega) | (have hc0 : c = n := by omega
                                                          subst hc0
                                                          exact lf_1 _ hk k (by omega) hv) | (exfalso; have hq := of_decide_eq_true hv; have e5 : kl 5 = 8 := by decide
                                                                                                have e11 : kl 11 = 16 := by decide
                                                                                                have e77 : kl 77 = 4 := by decide
                                                                                                omega)
theorem dX0_init_0 : decode cX0_init 0 = .ok (.aload_n 0, 1) := by decide +kernel
theorem dX0_init_1 : decode cX0_init 1 = .ok (.invokespecial 3, 3) := by decide +kernel
theorem dX0_init_4 : decode cX0_init 4 = .ok (.aload_n 0, 1) := by decide +kernel
theorem dX0_init_5 : decode cX0_init 5 = .ok (.iconst 4, 1) := by decide +kernel
theorem dX0_init_6 : decode cX0_init 6 = .ok (.newarray .int, 2) := by decide +kernel
theorem dX0_init_8 : decode cX0_init 8 = .ok (.putfield 9, 3) := by decide +kernel
theorem dX0_init_11 : decode cX0_init 11 = .ok (.aload_n 0, 1) := by decide +kernel
theorem dX0_init_12 : decode cX0_init 12 = .ok (.iconst 5, 1) := by decide +kernel
theorem dX0_init_13 : decode cX0_init 13 = .ok (.newarray .int, 2) := by decide +kernel
theorem dX0_init_15 : decode cX0_init 15 = .ok (.putfield 15, 3) := by decide +kernel
theorem dX0_init_18 : decode cX0_init 18 = .ok (.aload_n 0, 1) := by decide +kernel
theorem dX0_init_19 : decode cX0_init 19 = .ok (.sipush 196, 3) := by decide +kernel
theorem dX0_init_22 : decode cX0_init 22 = .ok (.newarray .int, 2) := by decide +kernel
theorem dX0_init_24 : decode cX0_init 24 = .ok (.putfield 18, 3) := by decide +kernel
theorem dX0_init_27 : decode cX0_init 27 = .ok (.return_, 1) := by decide +kernel
theorem zl_0_ : ∀ n, n < 217 → kt n = 3 → kt (n + 1) = 0 ∧ kl (n + 1) = 4 ∧ kt (n + 2) = 0 ∧ kl (n + 2) = 5 ∧ kt (n + 3) = 0 ∧ kl (n + 3) = 196 := by decide +kernel
theorem zl_0 (n : Nat) (hk : kt n = 0 + 3) : kt (n + 1) = 0 ∧ kl (n + 1) = 4 ∧ kt (n + 2) = 0 ∧ kl (n + 2) = 5 ∧ kt (n + 3) = 0 ∧ kl (n + 3) = 196 := zl_0_ n (kt_lt hk (by decide)) hk
theorem lf_0 (a : Nat) (hk : kt a = 0 + 3) : ∀ k, (k ≠ 3 ∧ k ≠ 4 ∧ k ≠ 5) → isR a k = true → hFin a k = -1 := by
  intro k hne h
  unfold isR at h
  unfold hFin
  rw [zsk_obj hk] at h ⊢
  match k, hne, h with
  | 0, _, h => exact Bool.noConfusion h
  | 1, _, h => exact Bool.noConfusion h
  | 2, _, h => exact Bool.noConfusion h
  | 3, hne, _ => exact absurd hne (by omega)
  | 4, hne, _ => exact absurd hne (by omega)
  | 5, hne, _ => exact absurd hne (by omega)
  | k + 6, _, h => exact Bool.noConfusion h
set_option maxHeartbeats 8000000 in
set_option maxRecDepth 100000 in
theorem kX0_init (l : Launch) (g : zG) (B : Nat) (u : Nat → Nat → Bool) (n : Nat) (hk : kt n = 0 + 3) : CTn l g B yX0_init cX0_init 1 1 3 205 [.ref (B + n)] (fun c k => if c = n then isR c k else u c k) (n + 1) (fun c k => if c < n then u c k else false) := by
  refine n_enter (by decide) rfl rfl (Nat.le_of_ble_eq_true rfl) ?_
  intro p e s m args below meth c ls cn hn hl
  have hl : lv_has ls 1 [(0, .ref (B + n))] := hl
  refine lv_aload_n cn.1 cn.2.1 dX0_init_0 rfl (lv_at hl 0 rfl) ?_
  refine W.objInit cn.1 cn.2.1 cn.2.2.2.1 (cn.2.2.2.2.1 _ mo_X0) (cn.2.2.2.2.1 _ zw_oi.1) (cn.2.2.2.2.1 _ zw_oi.2) rfl (hl.1.trans cn.2.2.1.symm) rfl dX0_init_1 (by decide) (Nat.le_of_ble_eq_true rfl) ?_
  refine lv_aload_n cn.1 cn.2.1 dX0_init_4 rfl (lv_at hl 0 rfl) ?_
  refine lv_iconst (v := ii 4) cn.1 cn.2.1 dX0_init_5 (by decide) ?_
  refine n_newa cn hn (by decide) (zl_0 n hk).1 (by rw [(zl_0 n hk).2.1]; rfl) (by decide) (by rw [(zl_0 n hk).2.1]; decide) dX0_init_6 (fun H hn => ?_)
  rw [(zl_0 n hk).2.1]
  refine n_put cn hn tyX0 tyX0_ok nmX0 0 3 (n + 1) rfl zin_0 (by decide) (by decide) hk (by omega) (Or.inl rfl) (hFin_s hk rfl) rfl (Or.inr ⟨_, rfl⟩) fl_X0_9 dX0_init_8 (fun H locs hn => ?_)
  refine lv_aload_n cn.1 cn.2.1 dX0_init_11 rfl (lv_at hl 0 rfl) ?_
  refine lv_iconst (v := ii 5) cn.1 cn.2.1 dX0_init_12 (by decide) ?_
  refine n_newa cn hn (by decide) (zl_0 n hk).2.2.1 (by rw [(zl_0 n hk).2.2.2.1]; rfl) (by decide) (by rw [(zl_0 n hk).2.2.2.1]; decide) dX0_init_13 (fun H hn => ?_)
  rw [(zl_0 n hk).2.2.2.1]
  refine n_put cn hn tyX0 tyX0_ok nmX0 0 4 (n + 2) rfl zin_0 (by decide) (by decide) hk (by omega) (Or.inl rfl) (hFin_s hk rfl) rfl (Or.inr ⟨_, rfl⟩) fl_X0_15 dX0_init_15 (fun H locs hn => ?_)
  refine lv_aload_n cn.1 cn.2.1 dX0_init_18 rfl (lv_at hl 0 rfl) ?_
  refine lv_sipush (v := ii 196) cn.1 cn.2.1 dX0_init_19 (by decide) ?_
  refine n_newa cn hn (by decide) (zl_0 n hk).2.2.2.2.1 (by rw [(zl_0 n hk).2.2.2.2.2]; rfl) (by decide) (by rw [(zl_0 n hk).2.2.2.2.2]; decide) dX0_init_22 (fun H hn => ?_)
  rw [(zl_0 n hk).2.2.2.2.2]
  refine n_put cn hn tyX0 tyX0_ok nmX0 0 5 (n + 3) rfl zin_0 (by decide) (by decide) hk (by omega) (Or.inl rfl) (hFin_s hk rfl) rfl (Or.inr ⟨_, rfl⟩) fl_X0_18 dX0_init_24 (fun H locs hn => ?_)
  refine W.widen (k := 3) (n := 205) (by omega) (by omega) ?_
  refine n_vret (n0 := n + 1) cn hn rfl (he_gen ?_ ?_) dX0_init_27
  · intro c k hc
    dsimp only
    repeat (first | rw [if_neg (by omega)] | rw [if_pos (by omega)])
  · intro c k h1 h2 hv
    dsimp only at hv
    repeat' (split at hv)
    all_goals first | exact Bool.noConfusion hv | (exfalso; omega) | (have hc0 : c = n := by omega
                                                          subst hc0
                                                          exact lf_0 _ hk k (by omega) hv) | (exfalso; have hq := of_decide_eq_true hv; have e5 : kl 5 = 8 := by decide
                                                                                                have e11 : kl 11 = 16 := by decide
                                                                                                have e77 : kl 77 = 4 := by decide
                                                                                                omega)
theorem dX4_init_0 : decode cX4_init 0 = .ok (.aload_n 0, 1) := by decide +kernel
theorem dX4_init_1 : decode cX4_init 1 = .ok (.invokespecial 3, 3) := by decide +kernel
theorem dX4_init_4 : decode cX4_init 4 = .ok (.aload_n 0, 1) := by decide +kernel
theorem dX4_init_5 : decode cX4_init 5 = .ok (.bipush 7, 2) := by decide +kernel
theorem dX4_init_7 : decode cX4_init 7 = .ok (.newarray .int, 2) := by decide +kernel
theorem dX4_init_9 : decode cX4_init 9 = .ok (.putfield 9, 3) := by decide +kernel
theorem dX4_init_12 : decode cX4_init 12 = .ok (.aload_n 0, 1) := by decide +kernel
theorem dX4_init_13 : decode cX4_init 13 = .ok (.bipush 6, 2) := by decide +kernel
theorem dX4_init_15 : decode cX4_init 15 = .ok (.newarray .int, 2) := by decide +kernel
theorem dX4_init_17 : decode cX4_init 17 = .ok (.putfield 15, 3) := by decide +kernel
theorem dX4_init_20 : decode cX4_init 20 = .ok (.aload_n 0, 1) := by decide +kernel
theorem dX4_init_21 : decode cX4_init 21 = .ok (.bipush 41, 2) := by decide +kernel
theorem dX4_init_23 : decode cX4_init 23 = .ok (.newarray .int, 2) := by decide +kernel
theorem dX4_init_25 : decode cX4_init 25 = .ok (.putfield 18, 3) := by decide +kernel
theorem dX4_init_28 : decode cX4_init 28 = .ok (.aload_n 0, 1) := by decide +kernel
theorem dX4_init_29 : decode cX4_init 29 = .ok (.bipush 40, 2) := by decide +kernel
theorem dX4_init_31 : decode cX4_init 31 = .ok (.newarray .int, 2) := by decide +kernel
theorem dX4_init_33 : decode cX4_init 33 = .ok (.putfield 21, 3) := by decide +kernel
theorem dX4_init_36 : decode cX4_init 36 = .ok (.aload_n 0, 1) := by decide +kernel
theorem dX4_init_37 : decode cX4_init 37 = .ok (.bipush 80, 2) := by decide +kernel
theorem dX4_init_39 : decode cX4_init 39 = .ok (.newarray .int, 2) := by decide +kernel
theorem dX4_init_41 : decode cX4_init 41 = .ok (.putfield 24, 3) := by decide +kernel
theorem dX4_init_44 : decode cX4_init 44 = .ok (.aload_n 0, 1) := by decide +kernel
theorem dX4_init_45 : decode cX4_init 45 = .ok (.bipush 80, 2) := by decide +kernel
theorem dX4_init_47 : decode cX4_init 47 = .ok (.newarray .int, 2) := by decide +kernel
theorem dX4_init_49 : decode cX4_init 49 = .ok (.putfield 27, 3) := by decide +kernel
theorem dX4_init_52 : decode cX4_init 52 = .ok (.aload_n 0, 1) := by decide +kernel
theorem dX4_init_53 : decode cX4_init 53 = .ok (.bipush 80, 2) := by decide +kernel
theorem dX4_init_55 : decode cX4_init 55 = .ok (.newarray .int, 2) := by decide +kernel
theorem dX4_init_57 : decode cX4_init 57 = .ok (.putfield 30, 3) := by decide +kernel
theorem dX4_init_60 : decode cX4_init 60 = .ok (.return_, 1) := by decide +kernel
theorem zl_4_ : ∀ n, n < 217 → kt n = 7 → kt (n + 1) = 0 ∧ kl (n + 1) = 7 ∧ kt (n + 2) = 0 ∧ kl (n + 2) = 6 ∧ kt (n + 3) = 0 ∧ kl (n + 3) = 41 ∧ kt (n + 4) = 0 ∧ kl (n + 4) = 40 ∧ kt (n + 5) = 0 ∧ kl (n + 5) = 80 ∧ kt (n + 6) = 0 ∧ kl (n + 6) = 80 ∧ kt (n + 7) = 0 ∧ kl (n + 7) = 80 := by decide +kernel
theorem zl_4 (n : Nat) (hk : kt n = 4 + 3) : kt (n + 1) = 0 ∧ kl (n + 1) = 7 ∧ kt (n + 2) = 0 ∧ kl (n + 2) = 6 ∧ kt (n + 3) = 0 ∧ kl (n + 3) = 41 ∧ kt (n + 4) = 0 ∧ kl (n + 4) = 40 ∧ kt (n + 5) = 0 ∧ kl (n + 5) = 80 ∧ kt (n + 6) = 0 ∧ kl (n + 6) = 80 ∧ kt (n + 7) = 0 ∧ kl (n + 7) = 80 := zl_4_ n (kt_lt hk (by decide)) hk
theorem lf_4 (a : Nat) (hk : kt a = 4 + 3) : ∀ k, (k ≠ 3 ∧ k ≠ 4 ∧ k ≠ 5 ∧ k ≠ 6 ∧ k ≠ 7 ∧ k ≠ 8 ∧ k ≠ 9) → isR a k = true → hFin a k = -1 := by
  intro k hne h
  unfold isR at h
  unfold hFin
  rw [zsk_obj hk] at h ⊢
  match k, hne, h with
  | 0, _, h => exact Bool.noConfusion h
  | 1, _, h => exact Bool.noConfusion h
  | 2, _, h => exact Bool.noConfusion h
  | 3, hne, _ => exact absurd hne (by omega)
  | 4, hne, _ => exact absurd hne (by omega)
  | 5, hne, _ => exact absurd hne (by omega)
  | 6, hne, _ => exact absurd hne (by omega)
  | 7, hne, _ => exact absurd hne (by omega)
  | 8, hne, _ => exact absurd hne (by omega)
  | 9, hne, _ => exact absurd hne (by omega)
  | k + 10, _, h => exact Bool.noConfusion h
set_option maxHeartbeats 8000000 in
set_option maxRecDepth 100000 in
theorem kX4_init (l : Launch) (g : zG) (B : Nat) (u : Nat → Nat → Bool) (n : Nat) (hk : kt n = 4 + 3) : CTn l g B yX4_init cX4_init 1 1 7 334 [.ref (B + n)] (fun c k => if c = n then isR c k else u c k) (n + 1) (fun c k => if c < n then u c k else false) := by
  refine n_enter (by decide) rfl rfl (Nat.le_of_ble_eq_true rfl) ?_
  intro p e s m args below meth c ls cn hn hl
  have hl : lv_has ls 1 [(0, .ref (B + n))] := hl
  refine lv_aload_n cn.1 cn.2.1 dX4_init_0 rfl (lv_at hl 0 rfl) ?_
  refine W.objInit cn.1 cn.2.1 cn.2.2.2.1 (cn.2.2.2.2.1 _ mo_X4) (cn.2.2.2.2.1 _ zw_oi.1) (cn.2.2.2.2.1 _ zw_oi.2) rfl (hl.1.trans cn.2.2.1.symm) rfl dX4_init_1 (by decide) (Nat.le_of_ble_eq_true rfl) ?_
  refine lv_aload_n cn.1 cn.2.1 dX4_init_4 rfl (lv_at hl 0 rfl) ?_
  refine lv_bipush (v := ii 7) cn.1 cn.2.1 dX4_init_5 (by decide) ?_
  refine n_newa cn hn (by decide) (zl_4 n hk).1 (by rw [(zl_4 n hk).2.1]; rfl) (by decide) (by rw [(zl_4 n hk).2.1]; decide) dX4_init_7 (fun H hn => ?_)
  rw [(zl_4 n hk).2.1]
  refine n_put cn hn tyX4 tyX4_ok nmX4 4 3 (n + 1) rfl zin_4 (by decide) (by decide) hk (by omega) (Or.inl rfl) (hFin_s hk rfl) rfl (Or.inr ⟨_, rfl⟩) fl_X4_9 dX4_init_9 (fun H locs hn => ?_)
  refine lv_aload_n cn.1 cn.2.1 dX4_init_12 rfl (lv_at hl 0 rfl) ?_
  refine lv_bipush (v := ii 6) cn.1 cn.2.1 dX4_init_13 (by decide) ?_
  refine n_newa cn hn (by decide) (zl_4 n hk).2.2.1 (by rw [(zl_4 n hk).2.2.2.1]; rfl) (by decide) (by rw [(zl_4 n hk).2.2.2.1]; decide) dX4_init_15 (fun H hn => ?_)
  rw [(zl_4 n hk).2.2.2.1]
  refine n_put cn hn tyX4 tyX4_ok nmX4 4 4 (n + 2) rfl zin_4 (by decide) (by decide) hk (by omega) (Or.inl rfl) (hFin_s hk rfl) rfl (Or.inr ⟨_, rfl⟩) fl_X4_15 dX4_init_17 (fun H locs hn => ?_)
  refine lv_aload_n cn.1 cn.2.1 dX4_init_20 rfl (lv_at hl 0 rfl) ?_
  refine lv_bipush (v := ii 41) cn.1 cn.2.1 dX4_init_21 (by decide) ?_
  refine n_newa cn hn (by decide) (zl_4 n hk).2.2.2.2.1 (by rw [(zl_4 n hk).2.2.2.2.2.1]; rfl) (by decide) (by rw [(zl_4 n hk).2.2.2.2.2.1]; decide) dX4_init_23 (fun H hn => ?_)
  rw [(zl_4 n hk).2.2.2.2.2.1]
  refine n_put cn hn tyX4 tyX4_ok nmX4 4 5 (n + 3) rfl zin_4 (by decide) (by decide) hk (by omega) (Or.inl rfl) (hFin_s hk rfl) rfl (Or.inr ⟨_, rfl⟩) fl_X4_18 dX4_init_25 (fun H locs hn => ?_)
  refine lv_aload_n cn.1 cn.2.1 dX4_init_28 rfl (lv_at hl 0 rfl) ?_
  refine lv_bipush (v := ii 40) cn.1 cn.2.1 dX4_init_29 (by decide) ?_
  refine n_newa cn hn (by decide) (zl_4 n hk).2.2.2.2.2.2.1 (by rw [(zl_4 n hk).2.2.2.2.2.2.2.1]; rfl) (by decide) (by rw [(zl_4 n hk).2.2.2.2.2.2.2.1]; decide) dX4_init_31 (fun H hn => ?_)
  rw [(zl_4 n hk).2.2.2.2.2.2.2.1]
  refine n_put cn hn tyX4 tyX4_ok nmX4 4 6 (n + 4) rfl zin_4 (by decide) (by decide) hk (by omega) (Or.inl rfl) (hFin_s hk rfl) rfl (Or.inr ⟨_, rfl⟩) fl_X4_21 dX4_init_33 (fun H locs hn => ?_)
  refine lv_aload_n cn.1 cn.2.1 dX4_init_36 rfl (lv_at hl 0 rfl) ?_
  refine lv_bipush (v := ii 80) cn.1 cn.2.1 dX4_init_37 (by decide) ?_
  refine n_newa cn hn (by decide) (zl_4 n hk).2.2.2.2.2.2.2.2.1 (by rw [(zl_4 n hk).2.2.2.2.2.2.2.2.2.1]; rfl) (by decide) (by rw [(zl_4 n hk).2.2.2.2.2.2.2.2.2.1]; decide) dX4_init_39 (fun H hn => ?_)
  rw [(zl_4 n hk).2.2.2.2.2.2.2.2.2.1]
  refine n_put cn hn tyX4 tyX4_ok nmX4 4 7 (n + 5) rfl zin_4 (by decide) (by decide) hk (by omega) (Or.inl rfl) (hFin_s hk rfl) rfl (Or.inr ⟨_, rfl⟩) fl_X4_24 dX4_init_41 (fun H locs hn => ?_)
  refine lv_aload_n cn.1 cn.2.1 dX4_init_44 rfl (lv_at hl 0 rfl) ?_
  refine lv_bipush (v := ii 80) cn.1 cn.2.1 dX4_init_45 (by decide) ?_
  refine n_newa cn hn (by decide) (zl_4 n hk).2.2.2.2.2.2.2.2.2.2.1 (by rw [(zl_4 n hk).2.2.2.2.2.2.2.2.2.2.2.1]; rfl) (by decide) (by rw [(zl_4 n hk).2.2.2.2.2.2.2.2.2.2.2.1]; decide) dX4_init_47 (fun H hn => ?_)
  rw [(zl_4 n hk).2.2.2.2.2.2.2.2.2.2.2.1]
  refine n_put cn hn tyX4 tyX4_ok nmX4 4 8 (n + 6) rfl zin_4 (by decide) (by decide) hk (by omega) (Or.inl rfl) (hFin_s hk rfl) rfl (Or.inr ⟨_, rfl⟩) fl_X4_27 dX4_init_49 (fun H locs hn => ?_)
  refine lv_aload_n cn.1 cn.2.1 dX4_init_52 rfl (lv_at hl 0 rfl) ?_
  refine lv_bipush (v := ii 80) cn.1 cn.2.1 dX4_init_53 (by decide) ?_
  refine n_newa cn hn (by decide) (zl_4 n hk).2.2.2.2.2.2.2.2.2.2.2.2.1 (by rw [(zl_4 n hk).2.2.2.2.2.2.2.2.2.2.2.2.2]; rfl) (by decide) (by rw [(zl_4 n hk).2.2.2.2.2.2.2.2.2.2.2.2.2]; decide) dX4_init_55 (fun H hn => ?_)
  rw [(zl_4 n hk).2.2.2.2.2.2.2.2.2.2.2.2.2]
  refine n_put cn hn tyX4 tyX4_ok nmX4 4 9 (n + 7) rfl zin_4 (by decide) (by decide) hk (by omega) (Or.inl rfl) (hFin_s hk rfl) rfl (Or.inr ⟨_, rfl⟩) fl_X4_30 dX4_init_57 (fun H locs hn => ?_)
  refine W.widen (k := 7) (n := 334) (by omega) (by omega) ?_
  refine n_vret (n0 := n + 1) cn hn rfl (he_gen ?_ ?_) dX4_init_60
  · intro c k hc
    dsimp only
    repeat (first | rw [if_neg (by omega)] | rw [if_pos (by omega)])
  · intro c k h1 h2 hv
    dsimp only at hv
    repeat' (split at hv)
    all_goals first | exact Bool.noConfusion hv | (exfalso; omega) | (have hc0 : c = n := by omega
                                                          subst hc0
                                                          exact lf_4 _ hk k (by omega) hv) | (exfalso; have hq := of_decide_eq_true hv; have e5 : kl 5 = 8 := by decide
                                                                                                have e11 : kl 11 = 16 := by decide
                                                                                                have e77 : kl 77 = 4 := by decide
                                                                                                omega)
theorem dX3_init_0 : decode cX3_init 0 = .ok (.aload_n 0, 1) := by decide +kernel
theorem dX3_init_1 : decode cX3_init 1 = .ok (.invokespecial 3, 3) := by decide +kernel
theorem dX3_init_4 : decode cX3_init 4 = .ok (.aload_n 0, 1) := by decide +kernel
theorem dX3_init_5 : decode cX3_init 5 = .ok (.bipush 16, 2) := by decide +kernel
theorem dX3_init_7 : decode cX3_init 7 = .ok (.anewarray 9, 3) := by decide +kernel
theorem dX3_init_10 : decode cX3_init 10 = .ok (.putfield 11, 3) := by decide +kernel
theorem dX3_init_13 : decode cX3_init 13 = .ok (.aload_n 0, 1) := by decide +kernel
theorem dX3_init_14 : decode cX3_init 14 = .ok (.bipush 16, 2) := by decide +kernel
theorem dX3_init_16 : decode cX3_init 16 = .ok (.newarray .int, 2) := by decide +kernel
theorem dX3_init_18 : decode cX3_init 18 = .ok (.putfield 17, 3) := by decide +kernel
theorem dX3_init_21 : decode cX3_init 21 = .ok (.iconst 0, 1) := by decide +kernel
theorem dX3_init_22 : decode cX3_init 22 = .ok (.istore_n 1, 1) := by decide +kernel
theorem dX3_init_23 : decode cX3_init 23 = .ok (.iload_n 1, 1) := by decide +kernel
theorem dX3_init_24 : decode cX3_init 24 = .ok (.bipush 16, 2) := by decide +kernel
theorem dX3_init_26 : decode cX3_init 26 = .ok (.if_icmp .ge 22, 3) := by decide +kernel
theorem dX3_init_29 : decode cX3_init 29 = .ok (.aload_n 0, 1) := by decide +kernel
theorem dX3_init_30 : decode cX3_init 30 = .ok (.getfield 11, 3) := by decide +kernel
theorem dX3_init_33 : decode cX3_init 33 = .ok (.iload_n 1, 1) := by decide +kernel
theorem dX3_init_34 : decode cX3_init 34 = .ok (.new 9, 3) := by decide +kernel
theorem dX3_init_37 : decode cX3_init 37 = .ok (.dup, 1) := by decide +kernel
theorem dX3_init_38 : decode cX3_init 38 = .ok (.invokespecial 21, 3) := by decide +kernel
theorem dX3_init_41 : decode cX3_init 41 = .ok (.aastore, 1) := by decide +kernel
theorem dX3_init_42 : decode cX3_init 42 = .ok (.iinc 1 1, 3) := by decide +kernel
theorem dX3_init_45 : decode cX3_init 45 = .ok (.goto (-22), 3) := by decide +kernel
theorem dX3_init_48 : decode cX3_init 48 = .ok (.return_, 1) := by decide +kernel
theorem lf_3 (a : Nat) (hk : kt a = 3 + 3) : ∀ k, (k ≠ 0 ∧ k ≠ 1) → isR a k = true → hFin a k = -1 := by
  intro k hne h
  unfold isR at h
  unfold hFin
  rw [zsk_obj hk] at h ⊢
  match k, hne, h with
  | 0, hne, _ => exact absurd hne (by omega)
  | 1, hne, _ => exact absurd hne (by omega)
  | 2, _, h => exact Bool.noConfusion h
  | 3, _, h => exact Bool.noConfusion h
  | k + 4, _, h => exact Bool.noConfusion h
set_option maxHeartbeats 8000000 in
set_option maxRecDepth 100000 in
theorem kX3_init (l : Launch) (g : zG) (B : Nat) (u : Nat → Nat → Bool) : CTn l g B yX3_init cX3_init 2 2 66 3408 [.ref (B + 10)] (fun c k => if c = 10 then isR c k else u c k) (10 + 1) (fun c k => if c < 10 then u c k else false) := by
  refine n_enter (by decide) rfl rfl (Nat.le_of_ble_eq_true rfl) ?_
  intro p e s m args below meth c ls cn hn hl
  have hl : lv_has ls 2 [(0, .ref (B + 10))] := hl
  refine lv_aload_n cn.1 cn.2.1 dX3_init_0 rfl (lv_at hl 0 rfl) ?_
  refine W.objInit cn.1 cn.2.1 cn.2.2.2.1 (cn.2.2.2.2.1 _ mo_X3) (cn.2.2.2.2.1 _ zw_oi.1) (cn.2.2.2.2.1 _ zw_oi.2) rfl (hl.1.trans cn.2.2.1.symm) rfl dX3_init_1 (by decide) (Nat.le_of_ble_eq_true rfl) ?_
  refine lv_aload_n cn.1 cn.2.1 dX3_init_4 rfl (lv_at hl 0 rfl) ?_
  refine lv_bipush (v := ii 16) cn.1 cn.2.1 dX3_init_5 (by decide) ?_
  refine n_anew cn hn (by decide) (Or.inl ⟨rfl, rfl⟩) (show kt 11 = 1 from by decide) (by decide) cl_X3_9 (by decide) (by decide) dX3_init_7 (fun H hn => ?_)
  refine n_put cn hn tyX3 tyX3_ok nmX3 3 0 11 rfl zin_3 (by decide) (by decide) (show kt 10 = 3 + 3 from by decide) (by omega) (Or.inl rfl) (by decide) rfl (Or.inr ⟨_, rfl⟩) fl_X3_11 dX3_init_10 (fun H locs hn => ?_)
  refine lv_aload_n cn.1 cn.2.1 dX3_init_13 rfl (lv_at hl 0 rfl) ?_
  refine lv_bipush (v := ii 16) cn.1 cn.2.1 dX3_init_14 (by decide) ?_
  refine n_newa cn hn (by decide) (show kt 12 = 0 from by decide) (by decide) (by decide) (by decide) dX3_init_16 (fun H hn => ?_)
  refine n_put cn hn tyX3 tyX3_ok nmX3 3 1 12 rfl zin_3 (by decide) (by decide) (show kt 10 = 3 + 3 from by decide) (by omega) (Or.inl rfl) (by decide) rfl (Or.inr ⟨_, rfl⟩) fl_X3_17 dX3_init_18 (fun H locs hn => ?_)
  refine lv_iconst (v := ii 0) cn.1 cn.2.1 dX3_init_21 (by decide) ?_
  refine lv_istore_n (lv' := [(1, .int (ii 0)), (0, .ref (B + 10))]) cn.1 cn.2.1 dX3_init_22 rfl hl (by decide) rfl (fun ls hl => ?_)
  refine lv_iload_n cn.1 cn.2.1 dX3_init_23 rfl (lv_at hl 0 rfl) ?_
  refine lv_bipush (v := ii 16) cn.1 cn.2.1 dX3_init_24 (by decide) ?_
  refine lv_icmp_ge (tgt := 48) cn.1 cn.2.1 dX3_init_26 (by decide) (fun q => absurd q (by decide)) (fun _ => ?_)
  refine lv_aload_n cn.1 cn.2.1 dX3_init_29 rfl (lv_at hl 1 rfl) ?_
  refine n_get cn hn 3 0 11 rfl zin_3 (by decide) (by decide) (show kt 10 = 3 + 3 from by decide) (by omega) (Or.inl rfl) (by rfl) fl_X3_11 dX3_init_30 ?_
  refine lv_iload_n cn.1 cn.2.1 dX3_init_33 rfl (lv_at hl 0 rfl) ?_
  refine n_new cn hn tyX0 tyX0_ok rfl zin_0 (show kt 13 = 0 + 3 from by decide) rfl (nd_0 B _ (by decide)) (hfn_all _) cl_X3_9 in_X0.1 in_X0.2 (by decide) (by decide) dX3_init_34 (fun H hn => ?_)
  refine lv_dup cn.1 cn.2.1 dX3_init_37 rfl ?_
  refine n_run (As := []) (rest := [.ref (B + 13), .int (ii 0), .ref (B + 11)]) (mc := 3) (ms := 205) cn hn (kX0_init l g B _ 13 (by decide)) iw_X0_init (Or.inr ni_X3_21) ⟨by decide, by decide⟩ ⟨by decide, by decide⟩ rfl hl.1 rfl (Nat.le_of_ble_eq_true rfl) dX3_init_38 (fun H locs hn => ?_)
  refine n_aast cn hn (by decide) (Or.inl ⟨rfl, rfl, rfl⟩) (show kt 11 = 1 from by decide) (by omega) (show kt 13 = 0 + 3 from by decide) (by omega) (by decide) (by decide) dX3_init_41 (fun H locs hn => ?_)
  refine lv_iinc (v := ii 1) (lv' := [(1, .int (ii 1)), (0, .ref (B + 10))]) cn.1 cn.2.1 dX3_init_42 hl (k := 0) rfl (by decide) (by decide) rfl (fun ls hl => ?_)
  refine lv_goto (tgt := 23) cn.1 cn.2.1 dX3_init_45 (by decide) ?_
  refine lv_iload_n cn.1 cn.2.1 dX3_init_23 rfl (lv_at hl 0 rfl) ?_
  refine lv_bipush (v := ii 16) cn.1 cn.2.1 dX3_init_24 (by decide) ?_
  refine lv_icmp_ge (tgt := 48) cn.1 cn.2.1 dX3_init_26 (by decide) (fun q => absurd q (by decide)) (fun _ => ?_)
  refine lv_aload_n cn.1 cn.2.1 dX3_init_29 rfl (lv_at hl 1 rfl) ?_
  refine n_get cn hn 3 0 11 rfl zin_3 (by decide) (by decide) (show kt 10 = 3 + 3 from by decide) (by omega) (Or.inl rfl) (by rfl) fl_X3_11 dX3_init_30 ?_
  refine lv_iload_n cn.1 cn.2.1 dX3_init_33 rfl (lv_at hl 0 rfl) ?_
  refine n_new cn hn tyX0 tyX0_ok rfl zin_0 (show kt 17 = 0 + 3 from by decide) rfl (nd_0 B _ (by decide)) (hfn_all _) cl_X3_9 in_X0.1 in_X0.2 (by decide) (by decide) dX3_init_34 (fun H hn => ?_)
  refine lv_dup cn.1 cn.2.1 dX3_init_37 rfl ?_
  refine n_run (As := []) (rest := [.ref (B + 17), .int (ii 1), .ref (B + 11)]) (mc := 3) (ms := 205) cn hn (kX0_init l g B _ 17 (by decide)) iw_X0_init (Or.inr ni_X3_21) ⟨by decide, by decide⟩ ⟨by decide, by decide⟩ rfl hl.1 rfl (Nat.le_of_ble_eq_true rfl) dX3_init_38 (fun H locs hn => ?_)
  refine n_aast cn hn (by decide) (Or.inl ⟨rfl, rfl, rfl⟩) (show kt 11 = 1 from by decide) (by omega) (show kt 17 = 0 + 3 from by decide) (by omega) (by decide) (by decide) dX3_init_41 (fun H locs hn => ?_)
  refine lv_iinc (v := ii 2) (lv' := [(1, .int (ii 2)), (0, .ref (B + 10))]) cn.1 cn.2.1 dX3_init_42 hl (k := 0) rfl (by decide) (by decide) rfl (fun ls hl => ?_)
  refine lv_goto (tgt := 23) cn.1 cn.2.1 dX3_init_45 (by decide) ?_
  refine lv_iload_n cn.1 cn.2.1 dX3_init_23 rfl (lv_at hl 0 rfl) ?_
  refine lv_bipush (v := ii 16) cn.1 cn.2.1 dX3_init_24 (by decide) ?_
  refine lv_icmp_ge (tgt := 48) cn.1 cn.2.1 dX3_init_26 (by decide) (fun q => absurd q (by decide)) (fun _ => ?_)
  refine lv_aload_n cn.1 cn.2.1 dX3_init_29 rfl (lv_at hl 1 rfl) ?_
  refine n_get cn hn 3 0 11 rfl zin_3 (by decide) (by decide) (show kt 10 = 3 + 3 from by decide) (by omega) (Or.inl rfl) (by rfl) fl_X3_11 dX3_init_30 ?_
  refine lv_iload_n cn.1 cn.2.1 dX3_init_33 rfl (lv_at hl 0 rfl) ?_
  refine n_new cn hn tyX0 tyX0_ok rfl zin_0 (show kt 21 = 0 + 3 from by decide) rfl (nd_0 B _ (by decide)) (hfn_all _) cl_X3_9 in_X0.1 in_X0.2 (by decide) (by decide) dX3_init_34 (fun H hn => ?_)
  refine lv_dup cn.1 cn.2.1 dX3_init_37 rfl ?_
  refine n_run (As := []) (rest := [.ref (B + 21), .int (ii 2), .ref (B + 11)]) (mc := 3) (ms := 205) cn hn (kX0_init l g B _ 21 (by decide)) iw_X0_init (Or.inr ni_X3_21) ⟨by decide, by decide⟩ ⟨by decide, by decide⟩ rfl hl.1 rfl (Nat.le_of_ble_eq_true rfl) dX3_init_38 (fun H locs hn => ?_)
  refine n_aast cn hn (by decide) (Or.inl ⟨rfl, rfl, rfl⟩) (show kt 11 = 1 from by decide) (by omega) (show kt 21 = 0 + 3 from by decide) (by omega) (by decide) (by decide) dX3_init_41 (fun H locs hn => ?_)
  refine lv_iinc (v := ii 3) (lv' := [(1, .int (ii 3)), (0, .ref (B + 10))]) cn.1 cn.2.1 dX3_init_42 hl (k := 0) rfl (by decide) (by decide) rfl (fun ls hl => ?_)
  refine lv_goto (tgt := 23) cn.1 cn.2.1 dX3_init_45 (by decide) ?_
  refine lv_iload_n cn.1 cn.2.1 dX3_init_23 rfl (lv_at hl 0 rfl) ?_
  refine lv_bipush (v := ii 16) cn.1 cn.2.1 dX3_init_24 (by decide) ?_
  refine lv_icmp_ge (tgt := 48) cn.1 cn.2.1 dX3_init_26 (by decide) (fun q => absurd q (by decide)) (fun _ => ?_)
  refine lv_aload_n cn.1 cn.2.1 dX3_init_29 rfl (lv_at hl 1 rfl) ?_
  refine n_get cn hn 3 0 11 rfl zin_3 (by decide) (by decide) (show kt 10 = 3 + 3 from by decide) (by omega) (Or.inl rfl) (by rfl) fl_X3_11 dX3_init_30 ?_
  refine lv_iload_n cn.1 cn.2.1 dX3_init_33 rfl (lv_at hl 0 rfl) ?_
  refine n_new cn hn tyX0 tyX0_ok rfl zin_0 (show kt 25 = 0 + 3 from by decide) rfl (nd_0 B _ (by decide)) (hfn_all _) cl_X3_9 in_X0.1 in_X0.2 (by decide) (by decide) dX3_init_34 (fun H hn => ?_)
  refine lv_dup cn.1 cn.2.1 dX3_init_37 rfl ?_
  refine n_run (As := []) (rest := [.ref (B + 25), .int (ii 3), .ref (B + 11)]) (mc := 3) (ms := 205) cn hn (kX0_init l g B _ 25 (by decide)) iw_X0_init (Or.inr ni_X3_21) ⟨by decide, by decide⟩ ⟨by decide, by decide⟩ rfl hl.1 rfl (Nat.le_of_ble_eq_true rfl) dX3_init_38 (fun H locs hn => ?_)
  refine n_aast cn hn (by decide) (Or.inl ⟨rfl, rfl, rfl⟩) (show kt 11 = 1 from by decide) (by omega) (show kt 25 = 0 + 3 from by decide) (by omega) (by decide) (by decide) dX3_init_41 (fun H locs hn => ?_)
  refine lv_iinc (v := ii 4) (lv' := [(1, .int (ii 4)), (0, .ref (B + 10))]) cn.1 cn.2.1 dX3_init_42 hl (k := 0) rfl (by decide) (by decide) rfl (fun ls hl => ?_)
  refine lv_goto (tgt := 23) cn.1 cn.2.1 dX3_init_45 (by decide) ?_
  refine lv_iload_n cn.1 cn.2.1 dX3_init_23 rfl (lv_at hl 0 rfl) ?_
  refine lv_bipush (v := ii 16) cn.1 cn.2.1 dX3_init_24 (by decide) ?_
  refine lv_icmp_ge (tgt := 48) cn.1 cn.2.1 dX3_init_26 (by decide) (fun q => absurd q (by decide)) (fun _ => ?_)
  refine lv_aload_n cn.1 cn.2.1 dX3_init_29 rfl (lv_at hl 1 rfl) ?_
  refine n_get cn hn 3 0 11 rfl zin_3 (by decide) (by decide) (show kt 10 = 3 + 3 from by decide) (by omega) (Or.inl rfl) (by rfl) fl_X3_11 dX3_init_30 ?_
  refine lv_iload_n cn.1 cn.2.1 dX3_init_33 rfl (lv_at hl 0 rfl) ?_
  refine n_new cn hn tyX0 tyX0_ok rfl zin_0 (show kt 29 = 0 + 3 from by decide) rfl (nd_0 B _ (by decide)) (hfn_all _) cl_X3_9 in_X0.1 in_X0.2 (by decide) (by decide) dX3_init_34 (fun H hn => ?_)
  refine lv_dup cn.1 cn.2.1 dX3_init_37 rfl ?_
  refine n_run (As := []) (rest := [.ref (B + 29), .int (ii 4), .ref (B + 11)]) (mc := 3) (ms := 205) cn hn (kX0_init l g B _ 29 (by decide)) iw_X0_init (Or.inr ni_X3_21) ⟨by decide, by decide⟩ ⟨by decide, by decide⟩ rfl hl.1 rfl (Nat.le_of_ble_eq_true rfl) dX3_init_38 (fun H locs hn => ?_)
  refine n_aast cn hn (by decide) (Or.inl ⟨rfl, rfl, rfl⟩) (show kt 11 = 1 from by decide) (by omega) (show kt 29 = 0 + 3 from by decide) (by omega) (by decide) (by decide) dX3_init_41 (fun H locs hn => ?_)
  refine lv_iinc (v := ii 5) (lv' := [(1, .int (ii 5)), (0, .ref (B + 10))]) cn.1 cn.2.1 dX3_init_42 hl (k := 0) rfl (by decide) (by decide) rfl (fun ls hl => ?_)
  refine lv_goto (tgt := 23) cn.1 cn.2.1 dX3_init_45 (by decide) ?_
  refine lv_iload_n cn.1 cn.2.1 dX3_init_23 rfl (lv_at hl 0 rfl) ?_
  refine lv_bipush (v := ii 16) cn.1 cn.2.1 dX3_init_24 (by decide) ?_
  refine lv_icmp_ge (tgt := 48) cn.1 cn.2.1 dX3_init_26 (by decide) (fun q => absurd q (by decide)) (fun _ => ?_)
  refine lv_aload_n cn.1 cn.2.1 dX3_init_29 rfl (lv_at hl 1 rfl) ?_
  refine n_get cn hn 3 0 11 rfl zin_3 (by decide) (by decide) (show kt 10 = 3 + 3 from by decide) (by omega) (Or.inl rfl) (by rfl) fl_X3_11 dX3_init_30 ?_
  refine lv_iload_n cn.1 cn.2.1 dX3_init_33 rfl (lv_at hl 0 rfl) ?_
  refine n_new cn hn tyX0 tyX0_ok rfl zin_0 (show kt 33 = 0 + 3 from by decide) rfl (nd_0 B _ (by decide)) (hfn_all _) cl_X3_9 in_X0.1 in_X0.2 (by decide) (by decide) dX3_init_34 (fun H hn => ?_)
  refine lv_dup cn.1 cn.2.1 dX3_init_37 rfl ?_
  refine n_run (As := []) (rest := [.ref (B + 33), .int (ii 5), .ref (B + 11)]) (mc := 3) (ms := 205) cn hn (kX0_init l g B _ 33 (by decide)) iw_X0_init (Or.inr ni_X3_21) ⟨by decide, by decide⟩ ⟨by decide, by decide⟩ rfl hl.1 rfl (Nat.le_of_ble_eq_true rfl) dX3_init_38 (fun H locs hn => ?_)
  refine n_aast cn hn (by decide) (Or.inl ⟨rfl, rfl, rfl⟩) (show kt 11 = 1 from by decide) (by omega) (show kt 33 = 0 + 3 from by decide) (by omega) (by decide) (by decide) dX3_init_41 (fun H locs hn => ?_)
  refine lv_iinc (v := ii 6) (lv' := [(1, .int (ii 6)), (0, .ref (B + 10))]) cn.1 cn.2.1 dX3_init_42 hl (k := 0) rfl (by decide) (by decide) rfl (fun ls hl => ?_)
  refine lv_goto (tgt := 23) cn.1 cn.2.1 dX3_init_45 (by decide) ?_
  refine lv_iload_n cn.1 cn.2.1 dX3_init_23 rfl (lv_at hl 0 rfl) ?_
  refine lv_bipush (v := ii 16) cn.1 cn.2.1 dX3_init_24 (by decide) ?_
  refine lv_icmp_ge (tgt := 48) cn.1 cn.2.1 dX3_init_26 (by decide) (fun q => absurd q (by decide)) (fun _ => ?_)
  refine lv_aload_n cn.1 cn.2.1 dX3_init_29 rfl (lv_at hl 1 rfl) ?_
  refine n_get cn hn 3 0 11 rfl zin_3 (by decide) (by decide) (show kt 10 = 3 + 3 from by decide) (by omega) (Or.inl rfl) (by rfl) fl_X3_11 dX3_init_30 ?_
  refine lv_iload_n cn.1 cn.2.1 dX3_init_33 rfl (lv_at hl 0 rfl) ?_
  refine n_new cn hn tyX0 tyX0_ok rfl zin_0 (show kt 37 = 0 + 3 from by decide) rfl (nd_0 B _ (by decide)) (hfn_all _) cl_X3_9 in_X0.1 in_X0.2 (by decide) (by decide) dX3_init_34 (fun H hn => ?_)
  refine lv_dup cn.1 cn.2.1 dX3_init_37 rfl ?_
  refine n_run (As := []) (rest := [.ref (B + 37), .int (ii 6), .ref (B + 11)]) (mc := 3) (ms := 205) cn hn (kX0_init l g B _ 37 (by decide)) iw_X0_init (Or.inr ni_X3_21) ⟨by decide, by decide⟩ ⟨by decide, by decide⟩ rfl hl.1 rfl (Nat.le_of_ble_eq_true rfl) dX3_init_38 (fun H locs hn => ?_)
  refine n_aast cn hn (by decide) (Or.inl ⟨rfl, rfl, rfl⟩) (show kt 11 = 1 from by decide) (by omega) (show kt 37 = 0 + 3 from by decide) (by omega) (by decide) (by decide) dX3_init_41 (fun H locs hn => ?_)
  refine lv_iinc (v := ii 7) (lv' := [(1, .int (ii 7)), (0, .ref (B + 10))]) cn.1 cn.2.1 dX3_init_42 hl (k := 0) rfl (by decide) (by decide) rfl (fun ls hl => ?_)
  refine lv_goto (tgt := 23) cn.1 cn.2.1 dX3_init_45 (by decide) ?_
  refine lv_iload_n cn.1 cn.2.1 dX3_init_23 rfl (lv_at hl 0 rfl) ?_
  refine lv_bipush (v := ii 16) cn.1 cn.2.1 dX3_init_24 (by decide) ?_
  refine lv_icmp_ge (tgt := 48) cn.1 cn.2.1 dX3_init_26 (by decide) (fun q => absurd q (by decide)) (fun _ => ?_)
  refine lv_aload_n cn.1 cn.2.1 dX3_init_29 rfl (lv_at hl 1 rfl) ?_
  refine n_get cn hn 3 0 11 rfl zin_3 (by decide) (by decide) (show kt 10 = 3 + 3 from by decide) (by omega) (Or.inl rfl) (by rfl) fl_X3_11 dX3_init_30 ?_
  refine lv_iload_n cn.1 cn.2.1 dX3_init_33 rfl (lv_at hl 0 rfl) ?_
  refine n_new cn hn tyX0 tyX0_ok rfl zin_0 (show kt 41 = 0 + 3 from by decide) rfl (nd_0 B _ (by decide)) (hfn_all _) cl_X3_9 in_X0.1 in_X0.2 (by decide) (by decide) dX3_init_34 (fun H hn => ?_)
  refine lv_dup cn.1 cn.2.1 dX3_init_37 rfl ?_
  refine n_run (As := []) (rest := [.ref (B + 41), .int (ii 7), .ref (B + 11)]) (mc := 3) (ms := 205) cn hn (kX0_init l g B _ 41 (by decide)) iw_X0_init (Or.inr ni_X3_21) ⟨by decide, by decide⟩ ⟨by decide, by decide⟩ rfl hl.1 rfl (Nat.le_of_ble_eq_true rfl) dX3_init_38 (fun H locs hn => ?_)
  refine n_aast cn hn (by decide) (Or.inl ⟨rfl, rfl, rfl⟩) (show kt 11 = 1 from by decide) (by omega) (show kt 41 = 0 + 3 from by decide) (by omega) (by decide) (by decide) dX3_init_41 (fun H locs hn => ?_)
  refine lv_iinc (v := ii 8) (lv' := [(1, .int (ii 8)), (0, .ref (B + 10))]) cn.1 cn.2.1 dX3_init_42 hl (k := 0) rfl (by decide) (by decide) rfl (fun ls hl => ?_)
  refine lv_goto (tgt := 23) cn.1 cn.2.1 dX3_init_45 (by decide) ?_
  refine lv_iload_n cn.1 cn.2.1 dX3_init_23 rfl (lv_at hl 0 rfl) ?_
  refine lv_bipush (v := ii 16) cn.1 cn.2.1 dX3_init_24 (by decide) ?_
  refine lv_icmp_ge (tgt := 48) cn.1 cn.2.1 dX3_init_26 (by decide) (fun q => absurd q (by decide)) (fun _ => ?_)
  refine lv_aload_n cn.1 cn.2.1 dX3_init_29 rfl (lv_at hl 1 rfl) ?_
  refine n_get cn hn 3 0 11 rfl zin_3 (by decide) (by decide) (show kt 10 = 3 + 3 from by decide) (by omega) (Or.inl rfl) (by rfl) fl_X3_11 dX3_init_30 ?_
  refine lv_iload_n cn.1 cn.2.1 dX3_init_33 rfl (lv_at hl 0 rfl) ?_
  refine n_new cn hn tyX0 tyX0_ok rfl zin_0 (show kt 45 = 0 + 3 from by decide) rfl (nd_0 B _ (by decide)) (hfn_all _) cl_X3_9 in_X0.1 in_X0.2 (by decide) (by decide) dX3_init_34 (fun H hn => ?_)
  refine lv_dup cn.1 cn.2.1 dX3_init_37 rfl ?_
  refine n_run (As := []) (rest := [.ref (B + 45), .int (ii 8), .ref (B + 11)]) (mc := 3) (ms := 205) cn hn (kX0_init l g B _ 45 (by decide)) iw_X0_init (Or.inr ni_X3_21) ⟨by decide, by decide⟩ ⟨by decide, by decide⟩ rfl hl.1 rfl (Nat.le_of_ble_eq_true rfl) dX3_init_38 (fun H locs hn => ?_)
  refine n_aast cn hn (by decide) (Or.inl ⟨rfl, rfl, rfl⟩) (show kt 11 = 1 from by decide) (by omega) (show kt 45 = 0 + 3 from by decide) (by omega) (by decide) (by decide) dX3_init_41 (fun H locs hn => ?_)
  refine lv_iinc (v := ii 9) (lv' := [(1, .int (ii 9)), (0, .ref (B + 10))]) cn.1 cn.2.1 dX3_init_42 hl (k := 0) rfl (by decide) (by decide) rfl (fun ls hl => ?_)
  refine lv_goto (tgt := 23) cn.1 cn.2.1 dX3_init_45 (by decide) ?_
  refine lv_iload_n cn.1 cn.2.1 dX3_init_23 rfl (lv_at hl 0 rfl) ?_
  refine lv_bipush (v := ii 16) cn.1 cn.2.1 dX3_init_24 (by decide) ?_
  refine lv_icmp_ge (tgt := 48) cn.1 cn.2.1 dX3_init_26 (by decide) (fun q => absurd q (by decide)) (fun _ => ?_)
  refine lv_aload_n cn.1 cn.2.1 dX3_init_29 rfl (lv_at hl 1 rfl) ?_
  refine n_get cn hn 3 0 11 rfl zin_3 (by decide) (by decide) (show kt 10 = 3 + 3 from by decide) (by omega) (Or.inl rfl) (by rfl) fl_X3_11 dX3_init_30 ?_
  refine lv_iload_n cn.1 cn.2.1 dX3_init_33 rfl (lv_at hl 0 rfl) ?_
  refine n_new cn hn tyX0 tyX0_ok rfl zin_0 (show kt 49 = 0 + 3 from by decide) rfl (nd_0 B _ (by decide)) (hfn_all _) cl_X3_9 in_X0.1 in_X0.2 (by decide) (by decide) dX3_init_34 (fun H hn => ?_)
  refine lv_dup cn.1 cn.2.1 dX3_init_37 rfl ?_
  refine n_run (As := []) (rest := [.ref (B + 49), .int (ii 9), .ref (B + 11)]) (mc := 3) (ms := 205) cn hn (kX0_init l g B _ 49 (by decide)) iw_X0_init (Or.inr ni_X3_21) ⟨by decide, by decide⟩ ⟨by decide, by decide⟩ rfl hl.1 rfl (Nat.le_of_ble_eq_true rfl) dX3_init_38 (fun H locs hn => ?_)
  refine n_aast cn hn (by decide) (Or.inl ⟨rfl, rfl, rfl⟩) (show kt 11 = 1 from by decide) (by omega) (show kt 49 = 0 + 3 from by decide) (by omega) (by decide) (by decide) dX3_init_41 (fun H locs hn => ?_)
  refine lv_iinc (v := ii 10) (lv' := [(1, .int (ii 10)), (0, .ref (B + 10))]) cn.1 cn.2.1 dX3_init_42 hl (k := 0) rfl (by decide) (by decide) rfl (fun ls hl => ?_)
  refine lv_goto (tgt := 23) cn.1 cn.2.1 dX3_init_45 (by decide) ?_
  refine lv_iload_n cn.1 cn.2.1 dX3_init_23 rfl (lv_at hl 0 rfl) ?_
  refine lv_bipush (v := ii 16) cn.1 cn.2.1 dX3_init_24 (by decide) ?_
  refine lv_icmp_ge (tgt := 48) cn.1 cn.2.1 dX3_init_26 (by decide) (fun q => absurd q (by decide)) (fun _ => ?_)
  refine lv_aload_n cn.1 cn.2.1 dX3_init_29 rfl (lv_at hl 1 rfl) ?_
  refine n_get cn hn 3 0 11 rfl zin_3 (by decide) (by decide) (show kt 10 = 3 + 3 from by decide) (by omega) (Or.inl rfl) (by rfl) fl_X3_11 dX3_init_30 ?_
  refine lv_iload_n cn.1 cn.2.1 dX3_init_33 rfl (lv_at hl 0 rfl) ?_
  refine n_new cn hn tyX0 tyX0_ok rfl zin_0 (show kt 53 = 0 + 3 from by decide) rfl (nd_0 B _ (by decide)) (hfn_all _) cl_X3_9 in_X0.1 in_X0.2 (by decide) (by decide) dX3_init_34 (fun H hn => ?_)
  refine lv_dup cn.1 cn.2.1 dX3_init_37 rfl ?_
  refine n_run (As := []) (rest := [.ref (B + 53), .int (ii 10), .ref (B + 11)]) (mc := 3) (ms := 205) cn hn (kX0_init l g B _ 53 (by decide)) iw_X0_init (Or.inr ni_X3_21) ⟨by decide, by decide⟩ ⟨by decide, by decide⟩ rfl hl.1 rfl (Nat.le_of_ble_eq_true rfl) dX3_init_38 (fun H locs hn => ?_)
  refine n_aast cn hn (by decide) (Or.inl ⟨rfl, rfl, rfl⟩) (show kt 11 = 1 from by decide) (by omega) (show kt 53 = 0 + 3 from by decide) (by omega) (by decide) (by decide) dX3_init_41 (fun H locs hn => ?_)
  refine lv_iinc (v := ii 11) (lv' := [(1, .int (ii 11)), (0, .ref (B + 10))]) cn.1 cn.2.1 dX3_init_42 hl (k := 0) rfl (by decide) (by decide) rfl (fun ls hl => ?_)
  refine lv_goto (tgt := 23) cn.1 cn.2.1 dX3_init_45 (by decide) ?_
  refine lv_iload_n cn.1 cn.2.1 dX3_init_23 rfl (lv_at hl 0 rfl) ?_
  refine lv_bipush (v := ii 16) cn.1 cn.2.1 dX3_init_24 (by decide) ?_
  refine lv_icmp_ge (tgt := 48) cn.1 cn.2.1 dX3_init_26 (by decide) (fun q => absurd q (by decide)) (fun _ => ?_)
  refine lv_aload_n cn.1 cn.2.1 dX3_init_29 rfl (lv_at hl 1 rfl) ?_
  refine n_get cn hn 3 0 11 rfl zin_3 (by decide) (by decide) (show kt 10 = 3 + 3 from by decide) (by omega) (Or.inl rfl) (by rfl) fl_X3_11 dX3_init_30 ?_
  refine lv_iload_n cn.1 cn.2.1 dX3_init_33 rfl (lv_at hl 0 rfl) ?_
  refine n_new cn hn tyX0 tyX0_ok rfl zin_0 (show kt 57 = 0 + 3 from by decide) rfl (nd_0 B _ (by decide)) (hfn_all _) cl_X3_9 in_X0.1 in_X0.2 (by decide) (by decide) dX3_init_34 (fun H hn => ?_)
  refine lv_dup cn.1 cn.2.1 dX3_init_37 rfl ?_
  refine n_run (As := []) (rest := [.ref (B + 57), .int (ii 11), .ref (B + 11)]) (mc := 3) (ms := 205) cn hn (kX0_init l g B _ 57 (by decide)) iw_X0_init (Or.inr ni_X3_21) ⟨by decide, by decide⟩ ⟨by decide, by decide⟩ rfl hl.1 rfl (Nat.le_of_ble_eq_true rfl) dX3_init_38 (fun H locs hn => ?_)
  refine n_aast cn hn (by decide) (Or.inl ⟨rfl, rfl, rfl⟩) (show kt 11 = 1 from by decide) (by omega) (show kt 57 = 0 + 3 from by decide) (by omega) (by decide) (by decide) dX3_init_41 (fun H locs hn => ?_)
  refine lv_iinc (v := ii 12) (lv' := [(1, .int (ii 12)), (0, .ref (B + 10))]) cn.1 cn.2.1 dX3_init_42 hl (k := 0) rfl (by decide) (by decide) rfl (fun ls hl => ?_)
  refine lv_goto (tgt := 23) cn.1 cn.2.1 dX3_init_45 (by decide) ?_
  refine lv_iload_n cn.1 cn.2.1 dX3_init_23 rfl (lv_at hl 0 rfl) ?_
  refine lv_bipush (v := ii 16) cn.1 cn.2.1 dX3_init_24 (by decide) ?_
  refine lv_icmp_ge (tgt := 48) cn.1 cn.2.1 dX3_init_26 (by decide) (fun q => absurd q (by decide)) (fun _ => ?_)
  refine lv_aload_n cn.1 cn.2.1 dX3_init_29 rfl (lv_at hl 1 rfl) ?_
  refine n_get cn hn 3 0 11 rfl zin_3 (by decide) (by decide) (show kt 10 = 3 + 3 from by decide) (by omega) (Or.inl rfl) (by rfl) fl_X3_11 dX3_init_30 ?_
  refine lv_iload_n cn.1 cn.2.1 dX3_init_33 rfl (lv_at hl 0 rfl) ?_
  refine n_new cn hn tyX0 tyX0_ok rfl zin_0 (show kt 61 = 0 + 3 from by decide) rfl (nd_0 B _ (by decide)) (hfn_all _) cl_X3_9 in_X0.1 in_X0.2 (by decide) (by decide) dX3_init_34 (fun H hn => ?_)
  refine lv_dup cn.1 cn.2.1 dX3_init_37 rfl ?_
  refine n_run (As := []) (rest := [.ref (B + 61), .int (ii 12), .ref (B + 11)]) (mc := 3) (ms := 205) cn hn (kX0_init l g B _ 61 (by decide)) iw_X0_init (Or.inr ni_X3_21) ⟨by decide, by decide⟩ ⟨by decide, by decide⟩ rfl hl.1 rfl (Nat.le_of_ble_eq_true rfl) dX3_init_38 (fun H locs hn => ?_)
  refine n_aast cn hn (by decide) (Or.inl ⟨rfl, rfl, rfl⟩) (show kt 11 = 1 from by decide) (by omega) (show kt 61 = 0 + 3 from by decide) (by omega) (by decide) (by decide) dX3_init_41 (fun H locs hn => ?_)
  refine lv_iinc (v := ii 13) (lv' := [(1, .int (ii 13)), (0, .ref (B + 10))]) cn.1 cn.2.1 dX3_init_42 hl (k := 0) rfl (by decide) (by decide) rfl (fun ls hl => ?_)
  refine lv_goto (tgt := 23) cn.1 cn.2.1 dX3_init_45 (by decide) ?_
  refine lv_iload_n cn.1 cn.2.1 dX3_init_23 rfl (lv_at hl 0 rfl) ?_
  refine lv_bipush (v := ii 16) cn.1 cn.2.1 dX3_init_24 (by decide) ?_
  refine lv_icmp_ge (tgt := 48) cn.1 cn.2.1 dX3_init_26 (by decide) (fun q => absurd q (by decide)) (fun _ => ?_)
  refine lv_aload_n cn.1 cn.2.1 dX3_init_29 rfl (lv_at hl 1 rfl) ?_
  refine n_get cn hn 3 0 11 rfl zin_3 (by decide) (by decide) (show kt 10 = 3 + 3 from by decide) (by omega) (Or.inl rfl) (by rfl) fl_X3_11 dX3_init_30 ?_
  refine lv_iload_n cn.1 cn.2.1 dX3_init_33 rfl (lv_at hl 0 rfl) ?_
  refine n_new cn hn tyX0 tyX0_ok rfl zin_0 (show kt 65 = 0 + 3 from by decide) rfl (nd_0 B _ (by decide)) (hfn_all _) cl_X3_9 in_X0.1 in_X0.2 (by decide) (by decide) dX3_init_34 (fun H hn => ?_)
  refine lv_dup cn.1 cn.2.1 dX3_init_37 rfl ?_
  refine n_run (As := []) (rest := [.ref (B + 65), .int (ii 13), .ref (B + 11)]) (mc := 3) (ms := 205) cn hn (kX0_init l g B _ 65 (by decide)) iw_X0_init (Or.inr ni_X3_21) ⟨by decide, by decide⟩ ⟨by decide, by decide⟩ rfl hl.1 rfl (Nat.le_of_ble_eq_true rfl) dX3_init_38 (fun H locs hn => ?_)
  refine n_aast cn hn (by decide) (Or.inl ⟨rfl, rfl, rfl⟩) (show kt 11 = 1 from by decide) (by omega) (show kt 65 = 0 + 3 from by decide) (by omega) (by decide) (by decide) dX3_init_41 (fun H locs hn => ?_)
  refine lv_iinc (v := ii 14) (lv' := [(1, .int (ii 14)), (0, .ref (B + 10))]) cn.1 cn.2.1 dX3_init_42 hl (k := 0) rfl (by decide) (by decide) rfl (fun ls hl => ?_)
  refine lv_goto (tgt := 23) cn.1 cn.2.1 dX3_init_45 (by decide) ?_
  refine lv_iload_n cn.1 cn.2.1 dX3_init_23 rfl (lv_at hl 0 rfl) ?_
  refine lv_bipush (v := ii 16) cn.1 cn.2.1 dX3_init_24 (by decide) ?_
  refine lv_icmp_ge (tgt := 48) cn.1 cn.2.1 dX3_init_26 (by decide) (fun q => absurd q (by decide)) (fun _ => ?_)
  refine lv_aload_n cn.1 cn.2.1 dX3_init_29 rfl (lv_at hl 1 rfl) ?_
  refine n_get cn hn 3 0 11 rfl zin_3 (by decide) (by decide) (show kt 10 = 3 + 3 from by decide) (by omega) (Or.inl rfl) (by rfl) fl_X3_11 dX3_init_30 ?_
  refine lv_iload_n cn.1 cn.2.1 dX3_init_33 rfl (lv_at hl 0 rfl) ?_
  refine n_new cn hn tyX0 tyX0_ok rfl zin_0 (show kt 69 = 0 + 3 from by decide) rfl (nd_0 B _ (by decide)) (hfn_all _) cl_X3_9 in_X0.1 in_X0.2 (by decide) (by decide) dX3_init_34 (fun H hn => ?_)
  refine lv_dup cn.1 cn.2.1 dX3_init_37 rfl ?_
  refine n_run (As := []) (rest := [.ref (B + 69), .int (ii 14), .ref (B + 11)]) (mc := 3) (ms := 205) cn hn (kX0_init l g B _ 69 (by decide)) iw_X0_init (Or.inr ni_X3_21) ⟨by decide, by decide⟩ ⟨by decide, by decide⟩ rfl hl.1 rfl (Nat.le_of_ble_eq_true rfl) dX3_init_38 (fun H locs hn => ?_)
  refine n_aast cn hn (by decide) (Or.inl ⟨rfl, rfl, rfl⟩) (show kt 11 = 1 from by decide) (by omega) (show kt 69 = 0 + 3 from by decide) (by omega) (by decide) (by decide) dX3_init_41 (fun H locs hn => ?_)
  refine lv_iinc (v := ii 15) (lv' := [(1, .int (ii 15)), (0, .ref (B + 10))]) cn.1 cn.2.1 dX3_init_42 hl (k := 0) rfl (by decide) (by decide) rfl (fun ls hl => ?_)
  refine lv_goto (tgt := 23) cn.1 cn.2.1 dX3_init_45 (by decide) ?_
  refine lv_iload_n cn.1 cn.2.1 dX3_init_23 rfl (lv_at hl 0 rfl) ?_
  refine lv_bipush (v := ii 16) cn.1 cn.2.1 dX3_init_24 (by decide) ?_
  refine lv_icmp_ge (tgt := 48) cn.1 cn.2.1 dX3_init_26 (by decide) (fun q => absurd q (by decide)) (fun _ => ?_)
  refine lv_aload_n cn.1 cn.2.1 dX3_init_29 rfl (lv_at hl 1 rfl) ?_
  refine n_get cn hn 3 0 11 rfl zin_3 (by decide) (by decide) (show kt 10 = 3 + 3 from by decide) (by omega) (Or.inl rfl) (by rfl) fl_X3_11 dX3_init_30 ?_
  refine lv_iload_n cn.1 cn.2.1 dX3_init_33 rfl (lv_at hl 0 rfl) ?_
  refine n_new cn hn tyX0 tyX0_ok rfl zin_0 (show kt 73 = 0 + 3 from by decide) rfl (nd_0 B _ (by decide)) (hfn_all _) cl_X3_9 in_X0.1 in_X0.2 (by decide) (by decide) dX3_init_34 (fun H hn => ?_)
  refine lv_dup cn.1 cn.2.1 dX3_init_37 rfl ?_
  refine n_run (As := []) (rest := [.ref (B + 73), .int (ii 15), .ref (B + 11)]) (mc := 3) (ms := 205) cn hn (kX0_init l g B _ 73 (by decide)) iw_X0_init (Or.inr ni_X3_21) ⟨by decide, by decide⟩ ⟨by decide, by decide⟩ rfl hl.1 rfl (Nat.le_of_ble_eq_true rfl) dX3_init_38 (fun H locs hn => ?_)
  refine n_aast cn hn (by decide) (Or.inl ⟨rfl, rfl, rfl⟩) (show kt 11 = 1 from by decide) (by omega) (show kt 73 = 0 + 3 from by decide) (by omega) (by decide) (by decide) dX3_init_41 (fun H locs hn => ?_)
  refine lv_iinc (v := ii 16) (lv' := [(1, .int (ii 16)), (0, .ref (B + 10))]) cn.1 cn.2.1 dX3_init_42 hl (k := 0) rfl (by decide) (by decide) rfl (fun ls hl => ?_)
  refine lv_goto (tgt := 23) cn.1 cn.2.1 dX3_init_45 (by decide) ?_
  refine lv_iload_n cn.1 cn.2.1 dX3_init_23 rfl (lv_at hl 0 rfl) ?_
  refine lv_bipush (v := ii 16) cn.1 cn.2.1 dX3_init_24 (by decide) ?_
  refine lv_icmp_ge (tgt := 48) cn.1 cn.2.1 dX3_init_26 (by decide) (fun _ => ?_) (fun q => absurd (by decide) q)
  refine W.widen (k := 66) (n := 3408) (by omega) (by decide) ?_
  refine n_vret (n0 := 10 + 1) cn hn rfl (he_gen ?_ ?_) dX3_init_48
  · intro c k hc
    dsimp only
    repeat (first | rw [if_neg (by omega)] | rw [if_pos (by omega)])
  · intro c k h1 h2 hv
    dsimp only at hv
    repeat' (split at hv)
    all_goals first | exact Bool.noConfusion hv | (exfalso; omega) | (have hc0 : c = 10 := by omega
                                                          subst hc0
                                                          exact lf_3 _ (by decide) k (by omega) hv) | (exfalso; have hq := of_decide_eq_true hv; have e5 : kl 5 = 8 := by decide
                                                                                                have e11 : kl 11 = 16 := by decide
                                                                                                have e77 : kl 77 = 4 := by decide
                                                                                                omega)
theorem dX10_init_0 : decode cX10_init 0 = .ok (.aload_n 0, 1) := by decide +kernel
theorem dX10_init_1 : decode cX10_init 1 = .ok (.invokespecial 3, 3) := by decide +kernel
theorem dX10_init_4 : decode cX10_init 4 = .ok (.aload_n 0, 1) := by decide +kernel
theorem dX10_init_5 : decode cX10_init 5 = .ok (.sipush 401, 3) := by decide +kernel
theorem dX10_init_8 : decode cX10_init 8 = .ok (.newarray .int, 2) := by decide +kernel
theorem dX10_init_10 : decode cX10_init 10 = .ok (.putfield 9, 3) := by decide +kernel
theorem dX10_init_13 : decode cX10_init 13 = .ok (.aload_n 0, 1) := by decide +kernel
theorem dX10_init_14 : decode cX10_init 14 = .ok (.sipush 401, 3) := by decide +kernel
theorem dX10_init_17 : decode cX10_init 17 = .ok (.newarray .int, 2) := by decide +kernel
theorem dX10_init_19 : decode cX10_init 19 = .ok (.putfield 15, 3) := by decide +kernel
theorem dX10_init_22 : decode cX10_init 22 = .ok (.aload_n 0, 1) := by decide +kernel
theorem dX10_init_23 : decode cX10_init 23 = .ok (.bipush 80, 2) := by decide +kernel
theorem dX10_init_25 : decode cX10_init 25 = .ok (.newarray .int, 2) := by decide +kernel
theorem dX10_init_27 : decode cX10_init 27 = .ok (.putfield 18, 3) := by decide +kernel
theorem dX10_init_30 : decode cX10_init 30 = .ok (.aload_n 0, 1) := by decide +kernel
theorem dX10_init_31 : decode cX10_init 31 = .ok (.iconst 4, 1) := by decide +kernel
theorem dX10_init_32 : decode cX10_init 32 = .ok (.newarray .int, 2) := by decide +kernel
theorem dX10_init_34 : decode cX10_init 34 = .ok (.putfield 21, 3) := by decide +kernel
theorem dX10_init_37 : decode cX10_init 37 = .ok (.return_, 1) := by decide +kernel
theorem lf_10 (a : Nat) (hk : kt a = 10 + 3) : ∀ k, (k ≠ 5 ∧ k ≠ 6 ∧ k ≠ 7 ∧ k ≠ 8) → isR a k = true → hFin a k = -1 := by
  intro k hne h
  have ha0 : a ≠ 0 := fun q => by subst q; exact absurd hk (by decide)
  have ha7 : a ≠ 77 := fun q => by subst q; exact absurd hk (by decide)
  unfold isR at h
  unfold hFin
  rw [zsk_obj hk] at h ⊢
  match k, hne, h with
  | 0, _, h => exact Bool.noConfusion h
  | 1, _, h => exact Bool.noConfusion h
  | 2, _, _ => show (if a = 0 then (78 : Int) else if a = 77 ∧ 2 < 4 then _ else -1) = -1; rw [if_neg ha0, if_neg (fun q => ha7 q.1)]
  | 3, _, h => exact Bool.noConfusion h
  | 4, _, _ => show (if a = 0 then (78 : Int) else if a = 77 ∧ 4 < 4 then _ else -1) = -1; rw [if_neg ha0, if_neg (fun q => ha7 q.1)]
  | 5, hne, _ => exact absurd hne (by omega)
  | 6, hne, _ => exact absurd hne (by omega)
  | 7, hne, _ => exact absurd hne (by omega)
  | 8, hne, _ => exact absurd hne (by omega)
  | k + 9, _, h => exact Bool.noConfusion h
set_option maxHeartbeats 8000000 in
set_option maxRecDepth 100000 in
theorem kX10_init (l : Launch) (g : zG) (B : Nat) (u : Nat → Nat → Bool) : CTn l g B yX10_init cX10_init 1 1 4 886 [.ref (B + 86)] (fun c k => if c = 86 then isR c k else u c k) (86 + 1) (fun c k => if c < 86 then u c k else false) := by
  refine n_enter (by decide) rfl rfl (Nat.le_of_ble_eq_true rfl) ?_
  intro p e s m args below meth c ls cn hn hl
  have hl : lv_has ls 1 [(0, .ref (B + 86))] := hl
  refine lv_aload_n cn.1 cn.2.1 dX10_init_0 rfl (lv_at hl 0 rfl) ?_
  refine W.objInit cn.1 cn.2.1 cn.2.2.2.1 (cn.2.2.2.2.1 _ mo_X10) (cn.2.2.2.2.1 _ zw_oi.1) (cn.2.2.2.2.1 _ zw_oi.2) rfl (hl.1.trans cn.2.2.1.symm) rfl dX10_init_1 (by decide) (Nat.le_of_ble_eq_true rfl) ?_
  refine lv_aload_n cn.1 cn.2.1 dX10_init_4 rfl (lv_at hl 0 rfl) ?_
  refine lv_sipush (v := ii 401) cn.1 cn.2.1 dX10_init_5 (by decide) ?_
  refine n_newa cn hn (by decide) (show kt 87 = 0 from by decide) (by decide) (by decide) (by decide) dX10_init_8 (fun H hn => ?_)
  refine n_put cn hn tyX10 tyX10_ok nmX10 10 5 87 rfl zin_10 (by decide) (by decide) (show kt 86 = 10 + 3 from by decide) (by omega) (Or.inl rfl) (by decide) rfl (Or.inr ⟨_, rfl⟩) fl_X10_9 dX10_init_10 (fun H locs hn => ?_)
  refine lv_aload_n cn.1 cn.2.1 dX10_init_13 rfl (lv_at hl 0 rfl) ?_
  refine lv_sipush (v := ii 401) cn.1 cn.2.1 dX10_init_14 (by decide) ?_
  refine n_newa cn hn (by decide) (show kt 88 = 0 from by decide) (by decide) (by decide) (by decide) dX10_init_17 (fun H hn => ?_)
  refine n_put cn hn tyX10 tyX10_ok nmX10 10 6 88 rfl zin_10 (by decide) (by decide) (show kt 86 = 10 + 3 from by decide) (by omega) (Or.inl rfl) (by decide) rfl (Or.inr ⟨_, rfl⟩) fl_X10_15 dX10_init_19 (fun H locs hn => ?_)
  refine lv_aload_n cn.1 cn.2.1 dX10_init_22 rfl (lv_at hl 0 rfl) ?_
  refine lv_bipush (v := ii 80) cn.1 cn.2.1 dX10_init_23 (by decide) ?_
  refine n_newa cn hn (by decide) (show kt 89 = 0 from by decide) (by decide) (by decide) (by decide) dX10_init_25 (fun H hn => ?_)
  refine n_put cn hn tyX10 tyX10_ok nmX10 10 7 89 rfl zin_10 (by decide) (by decide) (show kt 86 = 10 + 3 from by decide) (by omega) (Or.inl rfl) (by decide) rfl (Or.inr ⟨_, rfl⟩) fl_X10_18 dX10_init_27 (fun H locs hn => ?_)
  refine lv_aload_n cn.1 cn.2.1 dX10_init_30 rfl (lv_at hl 0 rfl) ?_
  refine lv_iconst (v := ii 4) cn.1 cn.2.1 dX10_init_31 (by decide) ?_
  refine n_newa cn hn (by decide) (show kt 90 = 0 from by decide) (by decide) (by decide) (by decide) dX10_init_32 (fun H hn => ?_)
  refine n_put cn hn tyX10 tyX10_ok nmX10 10 8 90 rfl zin_10 (by decide) (by decide) (show kt 86 = 10 + 3 from by decide) (by omega) (Or.inl rfl) (by decide) rfl (Or.inr ⟨_, rfl⟩) fl_X10_21 dX10_init_34 (fun H locs hn => ?_)
  refine W.widen (k := 4) (n := 886) (by omega) (by decide) ?_
  refine n_vret (n0 := 86 + 1) cn hn rfl (he_gen ?_ ?_) dX10_init_37
  · intro c k hc
    dsimp only
    repeat (first | rw [if_neg (by omega)] | rw [if_pos (by omega)])
  · intro c k h1 h2 hv
    dsimp only at hv
    repeat' (split at hv)
    all_goals first | exact Bool.noConfusion hv | (exfalso; omega) | (have hc0 : c = 86 := by omega
                                                          subst hc0
                                                          exact lf_10 _ (by decide) k (by omega) hv) | (exfalso; have hq := of_decide_eq_true hv; have e5 : kl 5 = 8 := by decide
                                                                                                have e11 : kl 11 = 16 := by decide
                                                                                                have e77 : kl 77 = 4 := by decide
                                                                                                omega)
theorem dX5_init_0 : decode cX5_init 0 = .ok (.aload_n 0, 1) := by decide +kernel
theorem dX5_init_1 : decode cX5_init 1 = .ok (.invokespecial 3, 3) := by decide +kernel
theorem dX5_init_4 : decode cX5_init 4 = .ok (.aload_n 0, 1) := by decide +kernel
theorem dX5_init_5 : decode cX5_init 5 = .ok (.iconst 3, 1) := by decide +kernel
theorem dX5_init_6 : decode cX5_init 6 = .ok (.newarray .int, 2) := by decide +kernel
theorem dX5_init_8 : decode cX5_init 8 = .ok (.putfield 9, 3) := by decide +kernel
theorem dX5_init_11 : decode cX5_init 11 = .ok (.aload_n 0, 1) := by decide +kernel
theorem dX5_init_12 : decode cX5_init 12 = .ok (.bipush 80, 2) := by decide +kernel
theorem dX5_init_14 : decode cX5_init 14 = .ok (.newarray .int, 2) := by decide +kernel
theorem dX5_init_16 : decode cX5_init 16 = .ok (.putfield 15, 3) := by decide +kernel
theorem dX5_init_19 : decode cX5_init 19 = .ok (.return_, 1) := by decide +kernel
theorem lf_5 (a : Nat) (hk : kt a = 5 + 3) : ∀ k, (k ≠ 3 ∧ k ≠ 4) → isR a k = true → hFin a k = -1 := by
  intro k hne h
  unfold isR at h
  unfold hFin
  rw [zsk_obj hk] at h ⊢
  match k, hne, h with
  | 0, _, h => exact Bool.noConfusion h
  | 1, _, h => exact Bool.noConfusion h
  | 2, _, h => exact Bool.noConfusion h
  | 3, hne, _ => exact absurd hne (by omega)
  | 4, hne, _ => exact absurd hne (by omega)
  | k + 5, _, h => exact Bool.noConfusion h
set_option maxHeartbeats 8000000 in
set_option maxRecDepth 100000 in
theorem kX5_init (l : Launch) (g : zG) (B : Nat) (u : Nat → Nat → Bool) : CTn l g B yX5_init cX5_init 1 1 2 83 [.ref (B + 91)] (fun c k => if c = 91 then isR c k else u c k) (91 + 1) (fun c k => if c < 91 then u c k else false) := by
  refine n_enter (by decide) rfl rfl (Nat.le_of_ble_eq_true rfl) ?_
  intro p e s m args below meth c ls cn hn hl
  have hl : lv_has ls 1 [(0, .ref (B + 91))] := hl
  refine lv_aload_n cn.1 cn.2.1 dX5_init_0 rfl (lv_at hl 0 rfl) ?_
  refine W.objInit cn.1 cn.2.1 cn.2.2.2.1 (cn.2.2.2.2.1 _ mo_X5) (cn.2.2.2.2.1 _ zw_oi.1) (cn.2.2.2.2.1 _ zw_oi.2) rfl (hl.1.trans cn.2.2.1.symm) rfl dX5_init_1 (by decide) (Nat.le_of_ble_eq_true rfl) ?_
  refine lv_aload_n cn.1 cn.2.1 dX5_init_4 rfl (lv_at hl 0 rfl) ?_
  refine lv_iconst (v := ii 3) cn.1 cn.2.1 dX5_init_5 (by decide) ?_
  refine n_newa cn hn (by decide) (show kt 92 = 0 from by decide) (by decide) (by decide) (by decide) dX5_init_6 (fun H hn => ?_)
  refine n_put cn hn tyX5 tyX5_ok nmX5 5 3 92 rfl zin_5 (by decide) (by decide) (show kt 91 = 5 + 3 from by decide) (by omega) (Or.inl rfl) (by decide) rfl (Or.inr ⟨_, rfl⟩) fl_X5_9 dX5_init_8 (fun H locs hn => ?_)
  refine lv_aload_n cn.1 cn.2.1 dX5_init_11 rfl (lv_at hl 0 rfl) ?_
  refine lv_bipush (v := ii 80) cn.1 cn.2.1 dX5_init_12 (by decide) ?_
  refine n_newa cn hn (by decide) (show kt 93 = 0 from by decide) (by decide) (by decide) (by decide) dX5_init_14 (fun H hn => ?_)
  refine n_put cn hn tyX5 tyX5_ok nmX5 5 4 93 rfl zin_5 (by decide) (by decide) (show kt 91 = 5 + 3 from by decide) (by omega) (Or.inl rfl) (by decide) rfl (Or.inr ⟨_, rfl⟩) fl_X5_15 dX5_init_16 (fun H locs hn => ?_)
  refine W.widen (k := 2) (n := 83) (by omega) (by decide) ?_
  refine n_vret (n0 := 91 + 1) cn hn rfl (he_gen ?_ ?_) dX5_init_19
  · intro c k hc
    dsimp only
    repeat (first | rw [if_neg (by omega)] | rw [if_pos (by omega)])
  · intro c k h1 h2 hv
    dsimp only at hv
    repeat' (split at hv)
    all_goals first | exact Bool.noConfusion hv | (exfalso; omega) | (have hc0 : c = 91 := by omega
                                                          subst hc0
                                                          exact lf_5 _ (by decide) k (by omega) hv) | (exfalso; have hq := of_decide_eq_true hv; have e5 : kl 5 = 8 := by decide
                                                                                                have e11 : kl 11 = 16 := by decide
                                                                                                have e77 : kl 77 = 4 := by decide
                                                                                                omega)
theorem dX2_init_0 : decode cX2_init 0 = .ok (.aload_n 0, 1) := by decide +kernel
theorem dX2_init_1 : decode cX2_init 1 = .ok (.invokespecial 3, 3) := by decide +kernel
theorem dX2_init_4 : decode cX2_init 4 = .ok (.aload_n 0, 1) := by decide +kernel
theorem dX2_init_5 : decode cX2_init 5 = .ok (.sipush 877, 3) := by decide +kernel
theorem dX2_init_8 : decode cX2_init 8 = .ok (.newarray .int, 2) := by decide +kernel
theorem dX2_init_10 : decode cX2_init 10 = .ok (.putfield 9, 3) := by decide +kernel
theorem dX2_init_13 : decode cX2_init 13 = .ok (.aload_n 0, 1) := by decide +kernel
theorem dX2_init_14 : decode cX2_init 14 = .ok (.bipush 7, 2) := by decide +kernel
theorem dX2_init_16 : decode cX2_init 16 = .ok (.newarray .int, 2) := by decide +kernel
theorem dX2_init_18 : decode cX2_init 18 = .ok (.putfield 15, 3) := by decide +kernel
theorem dX2_init_21 : decode cX2_init 21 = .ok (.aload_n 0, 1) := by decide +kernel
theorem dX2_init_22 : decode cX2_init 22 = .ok (.bipush 7, 2) := by decide +kernel
theorem dX2_init_24 : decode cX2_init 24 = .ok (.newarray .int, 2) := by decide +kernel
theorem dX2_init_26 : decode cX2_init 26 = .ok (.putfield 18, 3) := by decide +kernel
theorem dX2_init_29 : decode cX2_init 29 = .ok (.return_, 1) := by decide +kernel
theorem lf_2 (a : Nat) (hk : kt a = 2 + 3) : ∀ k, (k ≠ 0 ∧ k ≠ 2 ∧ k ≠ 3) → isR a k = true → hFin a k = -1 := by
  intro k hne h
  have ha0 : a ≠ 0 := fun q => by subst q; exact absurd hk (by decide)
  have ha7 : a ≠ 77 := fun q => by subst q; exact absurd hk (by decide)
  unfold isR at h
  unfold hFin
  rw [zsk_obj hk] at h ⊢
  match k, hne, h with
  | 0, hne, _ => exact absurd hne (by omega)
  | 1, _, h => exact Bool.noConfusion h
  | 2, hne, _ => exact absurd hne (by omega)
  | 3, hne, _ => exact absurd hne (by omega)
  | 4, _, _ => show (if a = 0 then (78 : Int) else if a = 77 ∧ 4 < 4 then _ else -1) = -1; rw [if_neg ha0, if_neg (fun q => ha7 q.1)]
  | k + 5, _, h => exact Bool.noConfusion h
set_option maxHeartbeats 8000000 in
set_option maxRecDepth 100000 in
theorem kX2_init (l : Launch) (g : zG) (B : Nat) (u : Nat → Nat → Bool) : CTn l g B yX2_init cX2_init 1 1 3 891 [.ref (B + 94)] (fun c k => if c = 94 then isR c k else u c k) (94 + 1) (fun c k => if c < 94 then u c k else false) := by
  refine n_enter (by decide) rfl rfl (Nat.le_of_ble_eq_true rfl) ?_
  intro p e s m args below meth c ls cn hn hl
  have hl : lv_has ls 1 [(0, .ref (B + 94))] := hl
  refine lv_aload_n cn.1 cn.2.1 dX2_init_0 rfl (lv_at hl 0 rfl) ?_
  refine W.objInit cn.1 cn.2.1 cn.2.2.2.1 (cn.2.2.2.2.1 _ mo_X2) (cn.2.2.2.2.1 _ zw_oi.1) (cn.2.2.2.2.1 _ zw_oi.2) rfl (hl.1.trans cn.2.2.1.symm) rfl dX2_init_1 (by decide) (Nat.le_of_ble_eq_true rfl) ?_
  refine lv_aload_n cn.1 cn.2.1 dX2_init_4 rfl (lv_at hl 0 rfl) ?_
  refine lv_sipush (v := ii 877) cn.1 cn.2.1 dX2_init_5 (by decide) ?_
  refine n_newa cn hn (by decide) (show kt 95 = 0 from by decide) (by decide) (by decide) (by decide) dX2_init_8 (fun H hn => ?_)
  refine n_put cn hn tyX2 tyX2_ok nmX2 2 0 95 rfl zin_2 (by decide) (by decide) (show kt 94 = 2 + 3 from by decide) (by omega) (Or.inl rfl) (by decide) rfl (Or.inr ⟨_, rfl⟩) fl_X2_9 dX2_init_10 (fun H locs hn => ?_)
  refine lv_aload_n cn.1 cn.2.1 dX2_init_13 rfl (lv_at hl 0 rfl) ?_
  refine lv_bipush (v := ii 7) cn.1 cn.2.1 dX2_init_14 (by decide) ?_
  refine n_newa cn hn (by decide) (show kt 96 = 0 from by decide) (by decide) (by decide) (by decide) dX2_init_16 (fun H hn => ?_)
  refine n_put cn hn tyX2 tyX2_ok nmX2 2 2 96 rfl zin_2 (by decide) (by decide) (show kt 94 = 2 + 3 from by decide) (by omega) (Or.inl rfl) (by decide) rfl (Or.inr ⟨_, rfl⟩) fl_X2_15 dX2_init_18 (fun H locs hn => ?_)
  refine lv_aload_n cn.1 cn.2.1 dX2_init_21 rfl (lv_at hl 0 rfl) ?_
  refine lv_bipush (v := ii 7) cn.1 cn.2.1 dX2_init_22 (by decide) ?_
  refine n_newa cn hn (by decide) (show kt 97 = 0 from by decide) (by decide) (by decide) (by decide) dX2_init_24 (fun H hn => ?_)
  refine n_put cn hn tyX2 tyX2_ok nmX2 2 3 97 rfl zin_2 (by decide) (by decide) (show kt 94 = 2 + 3 from by decide) (by omega) (Or.inl rfl) (by decide) rfl (Or.inr ⟨_, rfl⟩) fl_X2_18 dX2_init_26 (fun H locs hn => ?_)
  refine W.widen (k := 3) (n := 891) (by omega) (by decide) ?_
  refine n_vret (n0 := 94 + 1) cn hn rfl (he_gen ?_ ?_) dX2_init_29
  · intro c k hc
    dsimp only
    repeat (first | rw [if_neg (by omega)] | rw [if_pos (by omega)])
  · intro c k h1 h2 hv
    dsimp only at hv
    repeat' (split at hv)
    all_goals first | exact Bool.noConfusion hv | (exfalso; omega) | (have hc0 : c = 94 := by omega
                                                          subst hc0
                                                          exact lf_2 _ (by decide) k (by omega) hv) | (exfalso; have hq := of_decide_eq_true hv; have e5 : kl 5 = 8 := by decide
                                                                                                have e11 : kl 11 = 16 := by decide
                                                                                                have e77 : kl 77 = 4 := by decide
                                                                                                omega)
theorem dX7_init_0 : decode cX7_init 0 = .ok (.aload_n 0, 1) := by decide +kernel
theorem dX7_init_1 : decode cX7_init 1 = .ok (.invokespecial 3, 3) := by decide +kernel
theorem dX7_init_4 : decode cX7_init 4 = .ok (.aload_n 0, 1) := by decide +kernel
theorem dX7_init_5 : decode cX7_init 5 = .ok (.bipush 7, 2) := by decide +kernel
theorem dX7_init_7 : decode cX7_init 7 = .ok (.newarray .int, 2) := by decide +kernel
theorem dX7_init_9 : decode cX7_init 9 = .ok (.putfield 9, 3) := by decide +kernel
theorem dX7_init_12 : decode cX7_init 12 = .ok (.aload_n 0, 1) := by decide +kernel
theorem dX7_init_13 : decode cX7_init 13 = .ok (.sipush 196, 3) := by decide +kernel
theorem dX7_init_16 : decode cX7_init 16 = .ok (.newarray .int, 2) := by decide +kernel
theorem dX7_init_18 : decode cX7_init 18 = .ok (.putfield 15, 3) := by decide +kernel
theorem dX7_init_21 : decode cX7_init 21 = .ok (.aload_n 0, 1) := by decide +kernel
theorem dX7_init_22 : decode cX7_init 22 = .ok (.sipush 196, 3) := by decide +kernel
theorem dX7_init_25 : decode cX7_init 25 = .ok (.newarray .int, 2) := by decide +kernel
theorem dX7_init_27 : decode cX7_init 27 = .ok (.putfield 18, 3) := by decide +kernel
theorem dX7_init_30 : decode cX7_init 30 = .ok (.aload_n 0, 1) := by decide +kernel
theorem dX7_init_31 : decode cX7_init 31 = .ok (.sipush 196, 3) := by decide +kernel
theorem dX7_init_34 : decode cX7_init 34 = .ok (.newarray .int, 2) := by decide +kernel
theorem dX7_init_36 : decode cX7_init 36 = .ok (.putfield 21, 3) := by decide +kernel
theorem dX7_init_39 : decode cX7_init 39 = .ok (.aload_n 0, 1) := by decide +kernel
theorem dX7_init_40 : decode cX7_init 40 = .ok (.sipush 196, 3) := by decide +kernel
theorem dX7_init_43 : decode cX7_init 43 = .ok (.newarray .int, 2) := by decide +kernel
theorem dX7_init_45 : decode cX7_init 45 = .ok (.putfield 24, 3) := by decide +kernel
theorem dX7_init_48 : decode cX7_init 48 = .ok (.aload_n 0, 1) := by decide +kernel
theorem dX7_init_49 : decode cX7_init 49 = .ok (.bipush 7, 2) := by decide +kernel
theorem dX7_init_51 : decode cX7_init 51 = .ok (.newarray .int, 2) := by decide +kernel
theorem dX7_init_53 : decode cX7_init 53 = .ok (.putfield 27, 3) := by decide +kernel
theorem dX7_init_56 : decode cX7_init 56 = .ok (.return_, 1) := by decide +kernel
theorem lf_7 (a : Nat) (hk : kt a = 7 + 3) : ∀ k, (k ≠ 8 ∧ k ≠ 9 ∧ k ≠ 10 ∧ k ≠ 11 ∧ k ≠ 12 ∧ k ≠ 13) → isR a k = true → hFin a k = -1 := by
  intro k hne h
  have ha0 : a ≠ 0 := fun q => by subst q; exact absurd hk (by decide)
  have ha7 : a ≠ 77 := fun q => by subst q; exact absurd hk (by decide)
  unfold isR at h
  unfold hFin
  rw [zsk_obj hk] at h ⊢
  match k, hne, h with
  | 0, _, h => exact Bool.noConfusion h
  | 1, _, h => exact Bool.noConfusion h
  | 2, _, _ => show (if a = 0 then (78 : Int) else if a = 77 ∧ 2 < 4 then _ else -1) = -1; rw [if_neg ha0, if_neg (fun q => ha7 q.1)]
  | 3, _, _ => show (if a = 0 then (78 : Int) else if a = 77 ∧ 3 < 4 then _ else -1) = -1; rw [if_neg ha0, if_neg (fun q => ha7 q.1)]
  | 4, _, h => exact Bool.noConfusion h
  | 5, _, h => exact Bool.noConfusion h
  | 6, _, h => exact Bool.noConfusion h
  | 7, _, h => exact Bool.noConfusion h
  | 8, hne, _ => exact absurd hne (by omega)
  | 9, hne, _ => exact absurd hne (by omega)
  | 10, hne, _ => exact absurd hne (by omega)
  | 11, hne, _ => exact absurd hne (by omega)
  | 12, hne, _ => exact absurd hne (by omega)
  | 13, hne, _ => exact absurd hne (by omega)
  | 14, _, h => exact Bool.noConfusion h
  | k + 15, _, h => exact Bool.noConfusion h
set_option maxHeartbeats 8000000 in
set_option maxRecDepth 100000 in
theorem kX7_init (l : Launch) (g : zG) (B : Nat) (u : Nat → Nat → Bool) : CTn l g B yX7_init cX7_init 1 1 6 798 [.ref (B + 98)] (fun c k => if c = 98 then isR c k else u c k) (98 + 1) (fun c k => if c < 98 then u c k else false) := by
  refine n_enter (by decide) rfl rfl (Nat.le_of_ble_eq_true rfl) ?_
  intro p e s m args below meth c ls cn hn hl
  have hl : lv_has ls 1 [(0, .ref (B + 98))] := hl
  refine lv_aload_n cn.1 cn.2.1 dX7_init_0 rfl (lv_at hl 0 rfl) ?_
  refine W.objInit cn.1 cn.2.1 cn.2.2.2.1 (cn.2.2.2.2.1 _ mo_X7) (cn.2.2.2.2.1 _ zw_oi.1) (cn.2.2.2.2.1 _ zw_oi.2) rfl (hl.1.trans cn.2.2.1.symm) rfl dX7_init_1 (by decide) (Nat.le_of_ble_eq_true rfl) ?_
  refine lv_aload_n cn.1 cn.2.1 dX7_init_4 rfl (lv_at hl 0 rfl) ?_
  refine lv_bipush (v := ii 7) cn.1 cn.2.1 dX7_init_5 (by decide) ?_
  refine n_newa cn hn (by decide) (show kt 99 = 0 from by decide) (by decide) (by decide) (by decide) dX7_init_7 (fun H hn => ?_)
  refine n_put cn hn tyX7 tyX7_ok nmX7 7 8 99 rfl zin_7 (by decide) (by decide) (show kt 98 = 7 + 3 from by decide) (by omega) (Or.inl rfl) (by decide) rfl (Or.inr ⟨_, rfl⟩) fl_X7_9 dX7_init_9 (fun H locs hn => ?_)
  refine lv_aload_n cn.1 cn.2.1 dX7_init_12 rfl (lv_at hl 0 rfl) ?_
  refine lv_sipush (v := ii 196) cn.1 cn.2.1 dX7_init_13 (by decide) ?_
  refine n_newa cn hn (by decide) (show kt 100 = 0 from by decide) (by decide) (by decide) (by decide) dX7_init_16 (fun H hn => ?_)
  refine n_put cn hn tyX7 tyX7_ok nmX7 7 9 100 rfl zin_7 (by decide) (by decide) (show kt 98 = 7 + 3 from by decide) (by omega) (Or.inl rfl) (by decide) rfl (Or.inr ⟨_, rfl⟩) fl_X7_15 dX7_init_18 (fun H locs hn => ?_)
  refine lv_aload_n cn.1 cn.2.1 dX7_init_21 rfl (lv_at hl 0 rfl) ?_
  refine lv_sipush (v := ii 196) cn.1 cn.2.1 dX7_init_22 (by decide) ?_
  refine n_newa cn hn (by decide) (show kt 101 = 0 from by decide) (by decide) (by decide) (by decide) dX7_init_25 (fun H hn => ?_)
  refine n_put cn hn tyX7 tyX7_ok nmX7 7 10 101 rfl zin_7 (by decide) (by decide) (show kt 98 = 7 + 3 from by decide) (by omega) (Or.inl rfl) (by decide) rfl (Or.inr ⟨_, rfl⟩) fl_X7_18 dX7_init_27 (fun H locs hn => ?_)
  refine lv_aload_n cn.1 cn.2.1 dX7_init_30 rfl (lv_at hl 0 rfl) ?_
  refine lv_sipush (v := ii 196) cn.1 cn.2.1 dX7_init_31 (by decide) ?_
  refine n_newa cn hn (by decide) (show kt 102 = 0 from by decide) (by decide) (by decide) (by decide) dX7_init_34 (fun H hn => ?_)
  refine n_put cn hn tyX7 tyX7_ok nmX7 7 11 102 rfl zin_7 (by decide) (by decide) (show kt 98 = 7 + 3 from by decide) (by omega) (Or.inl rfl) (by decide) rfl (Or.inr ⟨_, rfl⟩) fl_X7_21 dX7_init_36 (fun H locs hn => ?_)
  refine lv_aload_n cn.1 cn.2.1 dX7_init_39 rfl (lv_at hl 0 rfl) ?_
  refine lv_sipush (v := ii 196) cn.1 cn.2.1 dX7_init_40 (by decide) ?_
  refine n_newa cn hn (by decide) (show kt 103 = 0 from by decide) (by decide) (by decide) (by decide) dX7_init_43 (fun H hn => ?_)
  refine n_put cn hn tyX7 tyX7_ok nmX7 7 12 103 rfl zin_7 (by decide) (by decide) (show kt 98 = 7 + 3 from by decide) (by omega) (Or.inl rfl) (by decide) rfl (Or.inr ⟨_, rfl⟩) fl_X7_24 dX7_init_45 (fun H locs hn => ?_)
  refine lv_aload_n cn.1 cn.2.1 dX7_init_48 rfl (lv_at hl 0 rfl) ?_
  refine lv_bipush (v := ii 7) cn.1 cn.2.1 dX7_init_49 (by decide) ?_
  refine n_newa cn hn (by decide) (show kt 104 = 0 from by decide) (by decide) (by decide) (by decide) dX7_init_51 (fun H hn => ?_)
  refine n_put cn hn tyX7 tyX7_ok nmX7 7 13 104 rfl zin_7 (by decide) (by decide) (show kt 98 = 7 + 3 from by decide) (by omega) (Or.inl rfl) (by decide) rfl (Or.inr ⟨_, rfl⟩) fl_X7_27 dX7_init_53 (fun H locs hn => ?_)
  refine W.widen (k := 6) (n := 798) (by omega) (by decide) ?_
  refine n_vret (n0 := 98 + 1) cn hn rfl (he_gen ?_ ?_) dX7_init_56
  · intro c k hc
    dsimp only
    repeat (first | rw [if_neg (by omega)] | rw [if_pos (by omega)])
  · intro c k h1 h2 hv
    dsimp only at hv
    repeat' (split at hv)
    all_goals first | exact Bool.noConfusion hv | (exfalso; omega) | (have hc0 : c = 98 := by omega
                                                          subst hc0
                                                          exact lf_7 _ (by decide) k (by omega) hv) | (exfalso; have hq := of_decide_eq_true hv; have e5 : kl 5 = 8 := by decide
                                                                                                have e11 : kl 11 = 16 := by decide
                                                                                                have e77 : kl 77 = 4 := by decide
                                                                                                omega)
theorem dX6_init_0 : decode cX6_init 0 = .ok (.aload_n 0, 1) := by decide +kernel
theorem dX6_init_1 : decode cX6_init 1 = .ok (.invokespecial 3, 3) := by decide +kernel
theorem dX6_init_4 : decode cX6_init 4 = .ok (.aload_n 0, 1) := by decide +kernel
theorem dX6_init_5 : decode cX6_init 5 = .ok (.bipush 7, 2) := by decide +kernel
theorem dX6_init_7 : decode cX6_init 7 = .ok (.newarray .int, 2) := by decide +kernel
theorem dX6_init_9 : decode cX6_init 9 = .ok (.putfield 9, 3) := by decide +kernel
theorem dX6_init_12 : decode cX6_init 12 = .ok (.aload_n 0, 1) := by decide +kernel
theorem dX6_init_13 : decode cX6_init 13 = .ok (.bipush 7, 2) := by decide +kernel
theorem dX6_init_15 : decode cX6_init 15 = .ok (.newarray .int, 2) := by decide +kernel
theorem dX6_init_17 : decode cX6_init 17 = .ok (.putfield 15, 3) := by decide +kernel
theorem dX6_init_20 : decode cX6_init 20 = .ok (.aload_n 0, 1) := by decide +kernel
theorem dX6_init_21 : decode cX6_init 21 = .ok (.bipush 7, 2) := by decide +kernel
theorem dX6_init_23 : decode cX6_init 23 = .ok (.newarray .int, 2) := by decide +kernel
theorem dX6_init_25 : decode cX6_init 25 = .ok (.putfield 18, 3) := by decide +kernel
theorem dX6_init_28 : decode cX6_init 28 = .ok (.aload_n 0, 1) := by decide +kernel
theorem dX6_init_29 : decode cX6_init 29 = .ok (.bipush 7, 2) := by decide +kernel
theorem dX6_init_31 : decode cX6_init 31 = .ok (.newarray .int, 2) := by decide +kernel
theorem dX6_init_33 : decode cX6_init 33 = .ok (.putfield 21, 3) := by decide +kernel
theorem dX6_init_36 : decode cX6_init 36 = .ok (.return_, 1) := by decide +kernel
theorem lf_6 (a : Nat) (hk : kt a = 6 + 3) : ∀ k, (k ≠ 0 ∧ k ≠ 1 ∧ k ≠ 4 ∧ k ≠ 5) → isR a k = true → hFin a k = -1 := by
  intro k hne h
  unfold isR at h
  unfold hFin
  rw [zsk_obj hk] at h ⊢
  match k, hne, h with
  | 0, hne, _ => exact absurd hne (by omega)
  | 1, hne, _ => exact absurd hne (by omega)
  | 2, _, h => exact Bool.noConfusion h
  | 3, _, h => exact Bool.noConfusion h
  | 4, hne, _ => exact absurd hne (by omega)
  | 5, hne, _ => exact absurd hne (by omega)
  | k + 6, _, h => exact Bool.noConfusion h
set_option maxHeartbeats 8000000 in
set_option maxRecDepth 100000 in
theorem kX6_init (l : Launch) (g : zG) (B : Nat) (u : Nat → Nat → Bool) : CTn l g B yX6_init cX6_init 1 1 4 28 [.ref (B + 105)] (fun c k => if c = 105 then isR c k else u c k) (105 + 1) (fun c k => if c < 105 then u c k else false) := by
  refine n_enter (by decide) rfl rfl (Nat.le_of_ble_eq_true rfl) ?_
  intro p e s m args below meth c ls cn hn hl
  have hl : lv_has ls 1 [(0, .ref (B + 105))] := hl
  refine lv_aload_n cn.1 cn.2.1 dX6_init_0 rfl (lv_at hl 0 rfl) ?_
  refine W.objInit cn.1 cn.2.1 cn.2.2.2.1 (cn.2.2.2.2.1 _ mo_X6) (cn.2.2.2.2.1 _ zw_oi.1) (cn.2.2.2.2.1 _ zw_oi.2) rfl (hl.1.trans cn.2.2.1.symm) rfl dX6_init_1 (by decide) (Nat.le_of_ble_eq_true rfl) ?_
  refine lv_aload_n cn.1 cn.2.1 dX6_init_4 rfl (lv_at hl 0 rfl) ?_
  refine lv_bipush (v := ii 7) cn.1 cn.2.1 dX6_init_5 (by decide) ?_
  refine n_newa cn hn (by decide) (show kt 106 = 0 from by decide) (by decide) (by decide) (by decide) dX6_init_7 (fun H hn => ?_)
  refine n_put cn hn tyX6 tyX6_ok nmX6 6 0 106 rfl zin_6 (by decide) (by decide) (show kt 105 = 6 + 3 from by decide) (by omega) (Or.inl rfl) (by decide) rfl (Or.inr ⟨_, rfl⟩) fl_X6_9 dX6_init_9 (fun H locs hn => ?_)
  refine lv_aload_n cn.1 cn.2.1 dX6_init_12 rfl (lv_at hl 0 rfl) ?_
  refine lv_bipush (v := ii 7) cn.1 cn.2.1 dX6_init_13 (by decide) ?_
  refine n_newa cn hn (by decide) (show kt 107 = 0 from by decide) (by decide) (by decide) (by decide) dX6_init_15 (fun H hn => ?_)
  refine n_put cn hn tyX6 tyX6_ok nmX6 6 1 107 rfl zin_6 (by decide) (by decide) (show kt 105 = 6 + 3 from by decide) (by omega) (Or.inl rfl) (by decide) rfl (Or.inr ⟨_, rfl⟩) fl_X6_15 dX6_init_17 (fun H locs hn => ?_)
  refine lv_aload_n cn.1 cn.2.1 dX6_init_20 rfl (lv_at hl 0 rfl) ?_
  refine lv_bipush (v := ii 7) cn.1 cn.2.1 dX6_init_21 (by decide) ?_
  refine n_newa cn hn (by decide) (show kt 108 = 0 from by decide) (by decide) (by decide) (by decide) dX6_init_23 (fun H hn => ?_)
  refine n_put cn hn tyX6 tyX6_ok nmX6 6 4 108 rfl zin_6 (by decide) (by decide) (show kt 105 = 6 + 3 from by decide) (by omega) (Or.inl rfl) (by decide) rfl (Or.inr ⟨_, rfl⟩) fl_X6_18 dX6_init_25 (fun H locs hn => ?_)
  refine lv_aload_n cn.1 cn.2.1 dX6_init_28 rfl (lv_at hl 0 rfl) ?_
  refine lv_bipush (v := ii 7) cn.1 cn.2.1 dX6_init_29 (by decide) ?_
  refine n_newa cn hn (by decide) (show kt 109 = 0 from by decide) (by decide) (by decide) (by decide) dX6_init_31 (fun H hn => ?_)
  refine n_put cn hn tyX6 tyX6_ok nmX6 6 5 109 rfl zin_6 (by decide) (by decide) (show kt 105 = 6 + 3 from by decide) (by omega) (Or.inl rfl) (by decide) rfl (Or.inr ⟨_, rfl⟩) fl_X6_21 dX6_init_33 (fun H locs hn => ?_)
  refine W.widen (k := 4) (n := 28) (by omega) (by decide) ?_
  refine n_vret (n0 := 105 + 1) cn hn rfl (he_gen ?_ ?_) dX6_init_36
  · intro c k hc
    dsimp only
    repeat (first | rw [if_neg (by omega)] | rw [if_pos (by omega)])
  · intro c k h1 h2 hv
    dsimp only at hv
    repeat' (split at hv)
    all_goals first | exact Bool.noConfusion hv | (exfalso; omega) | (have hc0 : c = 105 := by omega
                                                          subst hc0
                                                          exact lf_6 _ (by decide) k (by omega) hv) | (exfalso; have hq := of_decide_eq_true hv; have e5 : kl 5 = 8 := by decide
                                                                                                have e11 : kl 11 = 16 := by decide
                                                                                                have e77 : kl 77 = 4 := by decide
                                                                                                omega)
theorem dX9_init_0 : decode cX9_init 0 = .ok (.aload_n 0, 1) := by decide +kernel
theorem dX9_init_1 : decode cX9_init 1 = .ok (.invokespecial 3, 3) := by decide +kernel
theorem dX9_init_4 : decode cX9_init 4 = .ok (.aload_n 0, 1) := by decide +kernel
theorem dX9_init_5 : decode cX9_init 5 = .ok (.sipush 300, 3) := by decide +kernel
theorem dX9_init_8 : decode cX9_init 8 = .ok (.newarray .int, 2) := by decide +kernel
theorem dX9_init_10 : decode cX9_init 10 = .ok (.putfield 9, 3) := by decide +kernel
theorem dX9_init_13 : decode cX9_init 13 = .ok (.aload_n 0, 1) := by decide +kernel
theorem dX9_init_14 : decode cX9_init 14 = .ok (.sipush 2100, 3) := by decide +kernel
theorem dX9_init_17 : decode cX9_init 17 = .ok (.newarray .int, 2) := by decide +kernel
theorem dX9_init_19 : decode cX9_init 19 = .ok (.putfield 15, 3) := by decide +kernel
theorem dX9_init_22 : decode cX9_init 22 = .ok (.aload_n 0, 1) := by decide +kernel
theorem dX9_init_23 : decode cX9_init 23 = .ok (.bipush 7, 2) := by decide +kernel
theorem dX9_init_25 : decode cX9_init 25 = .ok (.newarray .int, 2) := by decide +kernel
theorem dX9_init_27 : decode cX9_init 27 = .ok (.putfield 18, 3) := by decide +kernel
theorem dX9_init_30 : decode cX9_init 30 = .ok (.return_, 1) := by decide +kernel
theorem lf_9 (a : Nat) (hk : kt a = 9 + 3) : ∀ k, (k ≠ 0 ∧ k ≠ 3 ∧ k ≠ 4) → isR a k = true → hFin a k = -1 := by
  intro k hne h
  have ha0 : a ≠ 0 := fun q => by subst q; exact absurd hk (by decide)
  have ha7 : a ≠ 77 := fun q => by subst q; exact absurd hk (by decide)
  unfold isR at h
  unfold hFin
  rw [zsk_obj hk] at h ⊢
  match k, hne, h with
  | 0, hne, _ => exact absurd hne (by omega)
  | 1, _, h => exact Bool.noConfusion h
  | 2, _, h => exact Bool.noConfusion h
  | 3, hne, _ => exact absurd hne (by omega)
  | 4, hne, _ => exact absurd hne (by omega)
  | 5, _, _ => show (if a = 0 then (78 : Int) else if a = 77 ∧ 5 < 4 then _ else -1) = -1; rw [if_neg ha0, if_neg (fun q => ha7 q.1)]
  | k + 6, _, h => exact Bool.noConfusion h
set_option maxHeartbeats 8000000 in
set_option maxRecDepth 100000 in
theorem kX9_init (l : Launch) (g : zG) (B : Nat) (u : Nat → Nat → Bool) : CTn l g B yX9_init cX9_init 1 1 3 2407 [.ref (B + 110)] (fun c k => if c = 110 then isR c k else u c k) (110 + 1) (fun c k => if c < 110 then u c k else false) := by
  refine n_enter (by decide) rfl rfl (Nat.le_of_ble_eq_true rfl) ?_
  intro p e s m args below meth c ls cn hn hl
  have hl : lv_has ls 1 [(0, .ref (B + 110))] := hl
  refine lv_aload_n cn.1 cn.2.1 dX9_init_0 rfl (lv_at hl 0 rfl) ?_
  refine W.objInit cn.1 cn.2.1 cn.2.2.2.1 (cn.2.2.2.2.1 _ mo_X9) (cn.2.2.2.2.1 _ zw_oi.1) (cn.2.2.2.2.1 _ zw_oi.2) rfl (hl.1.trans cn.2.2.1.symm) rfl dX9_init_1 (by decide) (Nat.le_of_ble_eq_true rfl) ?_
  refine lv_aload_n cn.1 cn.2.1 dX9_init_4 rfl (lv_at hl 0 rfl) ?_
  refine lv_sipush (v := ii 300) cn.1 cn.2.1 dX9_init_5 (by decide) ?_
  refine n_newa cn hn (by decide) (show kt 111 = 0 from by decide) (by decide) (by decide) (by decide) dX9_init_8 (fun H hn => ?_)
  refine n_put cn hn tyX9 tyX9_ok nmX9 9 0 111 rfl zin_9 (by decide) (by decide) (show kt 110 = 9 + 3 from by decide) (by omega) (Or.inl rfl) (by decide) rfl (Or.inr ⟨_, rfl⟩) fl_X9_9 dX9_init_10 (fun H locs hn => ?_)
  refine lv_aload_n cn.1 cn.2.1 dX9_init_13 rfl (lv_at hl 0 rfl) ?_
  refine lv_sipush (v := ii 2100) cn.1 cn.2.1 dX9_init_14 (by decide) ?_
  refine n_newa cn hn (by decide) (show kt 112 = 0 from by decide) (by decide) (by decide) (by decide) dX9_init_17 (fun H hn => ?_)
  refine n_put cn hn tyX9 tyX9_ok nmX9 9 3 112 rfl zin_9 (by decide) (by decide) (show kt 110 = 9 + 3 from by decide) (by omega) (Or.inl rfl) (by decide) rfl (Or.inr ⟨_, rfl⟩) fl_X9_15 dX9_init_19 (fun H locs hn => ?_)
  refine lv_aload_n cn.1 cn.2.1 dX9_init_22 rfl (lv_at hl 0 rfl) ?_
  refine lv_bipush (v := ii 7) cn.1 cn.2.1 dX9_init_23 (by decide) ?_
  refine n_newa cn hn (by decide) (show kt 113 = 0 from by decide) (by decide) (by decide) (by decide) dX9_init_25 (fun H hn => ?_)
  refine n_put cn hn tyX9 tyX9_ok nmX9 9 4 113 rfl zin_9 (by decide) (by decide) (show kt 110 = 9 + 3 from by decide) (by omega) (Or.inl rfl) (by decide) rfl (Or.inr ⟨_, rfl⟩) fl_X9_18 dX9_init_27 (fun H locs hn => ?_)
  refine W.widen (k := 3) (n := 2407) (by omega) (by decide) ?_
  refine n_vret (n0 := 110 + 1) cn hn rfl (he_gen ?_ ?_) dX9_init_30
  · intro c k hc
    dsimp only
    repeat (first | rw [if_neg (by omega)] | rw [if_pos (by omega)])
  · intro c k h1 h2 hv
    dsimp only at hv
    repeat' (split at hv)
    all_goals first | exact Bool.noConfusion hv | (exfalso; omega) | (have hc0 : c = 110 := by omega
                                                          subst hc0
                                                          exact lf_9 _ (by decide) k (by omega) hv) | (exfalso; have hq := of_decide_eq_true hv; have e5 : kl 5 = 8 := by decide
                                                                                                have e11 : kl 11 = 16 := by decide
                                                                                                have e77 : kl 77 = 4 := by decide
                                                                                                omega)
theorem dX8_init_0 : decode cX8_init 0 = .ok (.aload_n 0, 1) := by decide +kernel
theorem dX8_init_1 : decode cX8_init 1 = .ok (.invokespecial 3, 3) := by decide +kernel
theorem dX8_init_4 : decode cX8_init 4 = .ok (.aload_n 0, 1) := by decide +kernel
theorem dX8_init_5 : decode cX8_init 5 = .ok (.aload_n 1, 1) := by decide +kernel
theorem dX8_init_6 : decode cX8_init 6 = .ok (.putfield 9, 3) := by decide +kernel
theorem dX8_init_9 : decode cX8_init 9 = .ok (.aload_n 0, 1) := by decide +kernel
theorem dX8_init_10 : decode cX8_init 10 = .ok (.aload_n 2, 1) := by decide +kernel
theorem dX8_init_11 : decode cX8_init 11 = .ok (.putfield 15, 3) := by decide +kernel
theorem dX8_init_14 : decode cX8_init 14 = .ok (.return_, 1) := by decide +kernel
theorem lf_8 (a : Nat) (hk : kt a = 8 + 3) : ∀ k, (k ≠ 2 ∧ k ≠ 3) → isR a k = true → hFin a k = -1 := by
  intro k hne h
  unfold isR at h
  unfold hFin
  rw [zsk_obj hk] at h ⊢
  match k, hne, h with
  | 0, _, h => exact Bool.noConfusion h
  | 1, _, h => exact Bool.noConfusion h
  | 2, hne, _ => exact absurd hne (by omega)
  | 3, hne, _ => exact absurd hne (by omega)
  | k + 4, _, h => exact Bool.noConfusion h
set_option maxHeartbeats 8000000 in
set_option maxRecDepth 100000 in
theorem kX8_init (l : Launch) (g : zG) (B : Nat) (u : Nat → Nat → Bool) : CTn l g B yX8_init cX8_init 3 1 0 0 [.ref (B + 114), .ref (B + 105), .ref (B + 91)] (fun c k => if c = 114 then isR c k else u c k) (114 + 1) (fun c k => if c < 114 then u c k else false) := by
  refine n_enter (by decide) rfl rfl (Nat.le_of_ble_eq_true rfl) ?_
  intro p e s m args below meth c ls cn hn hl
  have hl : lv_has ls 3 [(0, .ref (B + 114)), (1, .ref (B + 105)), (2, .ref (B + 91))] := hl
  refine lv_aload_n cn.1 cn.2.1 dX8_init_0 rfl (lv_at hl 0 rfl) ?_
  refine W.objInit cn.1 cn.2.1 cn.2.2.2.1 (cn.2.2.2.2.1 _ mo_X8) (cn.2.2.2.2.1 _ zw_oi.1) (cn.2.2.2.2.1 _ zw_oi.2) rfl (hl.1.trans cn.2.2.1.symm) rfl dX8_init_1 (by decide) (Nat.le_of_ble_eq_true rfl) ?_
  refine lv_aload_n cn.1 cn.2.1 dX8_init_4 rfl (lv_at hl 0 rfl) ?_
  refine lv_aload_n cn.1 cn.2.1 dX8_init_5 rfl (lv_at hl 1 rfl) ?_
  refine n_put cn hn tyX8 tyX8_ok nmX8 8 2 105 rfl zin_8 (by decide) (by decide) (show kt 114 = 8 + 3 from by decide) (by omega) (Or.inl rfl) (by decide) rfl (Or.inl ⟨_, rfl⟩) fl_X8_9 dX8_init_6 (fun H locs hn => ?_)
  refine lv_aload_n cn.1 cn.2.1 dX8_init_9 rfl (lv_at hl 0 rfl) ?_
  refine lv_aload_n cn.1 cn.2.1 dX8_init_10 rfl (lv_at hl 2 rfl) ?_
  refine n_put cn hn tyX8 tyX8_ok nmX8 8 3 91 rfl zin_8 (by decide) (by decide) (show kt 114 = 8 + 3 from by decide) (by omega) (Or.inl rfl) (by decide) rfl (Or.inl ⟨_, rfl⟩) fl_X8_15 dX8_init_11 (fun H locs hn => ?_)
  refine W.widen (k := 0) (n := 0) (by omega) (by decide) ?_
  refine n_vret (n0 := 114 + 1) cn hn rfl (he_gen ?_ ?_) dX8_init_14
  · intro c k hc
    dsimp only
    repeat (first | rw [if_neg (by omega)] | rw [if_pos (by omega)])
  · intro c k h1 h2 hv
    dsimp only at hv
    repeat' (split at hv)
    all_goals first | exact Bool.noConfusion hv | (exfalso; omega) | (have hc0 : c = 114 := by omega
                                                          subst hc0
                                                          exact lf_8 _ (by decide) k (by omega) hv) | (exfalso; have hq := of_decide_eq_true hv; have e5 : kl 5 = 8 := by decide
                                                                                                have e11 : kl 11 = 16 := by decide
                                                                                                have e77 : kl 77 = 4 := by decide
                                                                                                omega)
theorem dX11_init_0 : decode cX11_init 0 = .ok (.aload_n 0, 1) := by decide +kernel
theorem dX11_init_1 : decode cX11_init 1 = .ok (.invokespecial 3, 3) := by decide +kernel
theorem dX11_init_4 : decode cX11_init 4 = .ok (.aload_n 0, 1) := by decide +kernel
theorem dX11_init_5 : decode cX11_init 5 = .ok (.new 9, 3) := by decide +kernel
theorem dX11_init_8 : decode cX11_init 8 = .ok (.dup, 1) := by decide +kernel
theorem dX11_init_9 : decode cX11_init 9 = .ok (.sipush 400, 3) := by decide +kernel
theorem dX11_init_12 : decode cX11_init 12 = .ok (.invokespecial 11, 3) := by decide +kernel
theorem dX11_init_15 : decode cX11_init 15 = .ok (.putfield 14, 3) := by decide +kernel
theorem dX11_init_18 : decode cX11_init 18 = .ok (.aload_n 0, 1) := by decide +kernel
theorem dX11_init_19 : decode cX11_init 19 = .ok (.new 9, 3) := by decide +kernel
theorem dX11_init_22 : decode cX11_init 22 = .ok (.dup, 1) := by decide +kernel
theorem dX11_init_23 : decode cX11_init 23 = .ok (.sipush 205, 3) := by decide +kernel
theorem dX11_init_26 : decode cX11_init 26 = .ok (.invokespecial 11, 3) := by decide +kernel
theorem dX11_init_29 : decode cX11_init 29 = .ok (.putfield 18, 3) := by decide +kernel
theorem dX11_init_32 : decode cX11_init 32 = .ok (.aload_n 0, 1) := by decide +kernel
theorem dX11_init_33 : decode cX11_init 33 = .ok (.bipush 8, 2) := by decide +kernel
theorem dX11_init_35 : decode cX11_init 35 = .ok (.anewarray 21, 3) := by decide +kernel
theorem dX11_init_38 : decode cX11_init 38 = .ok (.putfield 23, 3) := by decide +kernel
theorem dX11_init_41 : decode cX11_init 41 = .ok (.aload_n 0, 1) := by decide +kernel
theorem dX11_init_42 : decode cX11_init 42 = .ok (.new 21, 3) := by decide +kernel
theorem dX11_init_45 : decode cX11_init 45 = .ok (.dup, 1) := by decide +kernel
theorem dX11_init_46 : decode cX11_init 46 = .ok (.invokespecial 27, 3) := by decide +kernel
theorem dX11_init_49 : decode cX11_init 49 = .ok (.putfield 28, 3) := by decide +kernel
theorem dX11_init_52 : decode cX11_init 52 = .ok (.aload_n 0, 1) := by decide +kernel
theorem dX11_init_53 : decode cX11_init 53 = .ok (.new 32, 3) := by decide +kernel
theorem dX11_init_56 : decode cX11_init 56 = .ok (.dup, 1) := by decide +kernel
theorem dX11_init_57 : decode cX11_init 57 = .ok (.invokespecial 34, 3) := by decide +kernel
theorem dX11_init_60 : decode cX11_init 60 = .ok (.putfield 35, 3) := by decide +kernel
theorem dX11_init_63 : decode cX11_init 63 = .ok (.aload_n 0, 1) := by decide +kernel
theorem dX11_init_64 : decode cX11_init 64 = .ok (.iconst 4, 1) := by decide +kernel
theorem dX11_init_65 : decode cX11_init 65 = .ok (.anewarray 39, 3) := by decide +kernel
theorem dX11_init_68 : decode cX11_init 68 = .ok (.putfield 41, 3) := by decide +kernel
theorem dX11_init_71 : decode cX11_init 71 = .ok (.aload_n 0, 1) := by decide +kernel
theorem dX11_init_72 : decode cX11_init 72 = .ok (.new 39, 3) := by decide +kernel
theorem dX11_init_75 : decode cX11_init 75 = .ok (.dup, 1) := by decide +kernel
theorem dX11_init_76 : decode cX11_init 76 = .ok (.invokespecial 45, 3) := by decide +kernel
theorem dX11_init_79 : decode cX11_init 79 = .ok (.putfield 46, 3) := by decide +kernel
theorem dX11_init_82 : decode cX11_init 82 = .ok (.aload_n 0, 1) := by decide +kernel
theorem dX11_init_83 : decode cX11_init 83 = .ok (.new 50, 3) := by decide +kernel
theorem dX11_init_86 : decode cX11_init 86 = .ok (.dup, 1) := by decide +kernel
theorem dX11_init_87 : decode cX11_init 87 = .ok (.invokespecial 52, 3) := by decide +kernel
theorem dX11_init_90 : decode cX11_init 90 = .ok (.putfield 53, 3) := by decide +kernel
theorem dX11_init_93 : decode cX11_init 93 = .ok (.aload_n 0, 1) := by decide +kernel
theorem dX11_init_94 : decode cX11_init 94 = .ok (.new 57, 3) := by decide +kernel
theorem dX11_init_97 : decode cX11_init 97 = .ok (.dup, 1) := by decide +kernel
theorem dX11_init_98 : decode cX11_init 98 = .ok (.invokespecial 59, 3) := by decide +kernel
theorem dX11_init_101 : decode cX11_init 101 = .ok (.putfield 60, 3) := by decide +kernel
theorem dX11_init_104 : decode cX11_init 104 = .ok (.aload_n 0, 1) := by decide +kernel
theorem dX11_init_105 : decode cX11_init 105 = .ok (.new 64, 3) := by decide +kernel
theorem dX11_init_108 : decode cX11_init 108 = .ok (.dup, 1) := by decide +kernel
theorem dX11_init_109 : decode cX11_init 109 = .ok (.invokespecial 66, 3) := by decide +kernel
theorem dX11_init_112 : decode cX11_init 112 = .ok (.putfield 67, 3) := by decide +kernel
theorem dX11_init_115 : decode cX11_init 115 = .ok (.aload_n 0, 1) := by decide +kernel
theorem dX11_init_116 : decode cX11_init 116 = .ok (.new 71, 3) := by decide +kernel
theorem dX11_init_119 : decode cX11_init 119 = .ok (.dup, 1) := by decide +kernel
theorem dX11_init_120 : decode cX11_init 120 = .ok (.invokespecial 73, 3) := by decide +kernel
theorem dX11_init_123 : decode cX11_init 123 = .ok (.putfield 74, 3) := by decide +kernel
theorem dX11_init_126 : decode cX11_init 126 = .ok (.aload_n 0, 1) := by decide +kernel
theorem dX11_init_127 : decode cX11_init 127 = .ok (.new 78, 3) := by decide +kernel
theorem dX11_init_130 : decode cX11_init 130 = .ok (.dup, 1) := by decide +kernel
theorem dX11_init_131 : decode cX11_init 131 = .ok (.invokespecial 80, 3) := by decide +kernel
theorem dX11_init_134 : decode cX11_init 134 = .ok (.putfield 81, 3) := by decide +kernel
theorem dX11_init_137 : decode cX11_init 137 = .ok (.aload_n 0, 1) := by decide +kernel
theorem dX11_init_138 : decode cX11_init 138 = .ok (.new 85, 3) := by decide +kernel
theorem dX11_init_141 : decode cX11_init 141 = .ok (.dup, 1) := by decide +kernel
theorem dX11_init_142 : decode cX11_init 142 = .ok (.invokespecial 87, 3) := by decide +kernel
theorem dX11_init_145 : decode cX11_init 145 = .ok (.putfield 88, 3) := by decide +kernel
theorem dX11_init_148 : decode cX11_init 148 = .ok (.aload_n 0, 1) := by decide +kernel
theorem dX11_init_149 : decode cX11_init 149 = .ok (.new 92, 3) := by decide +kernel
theorem dX11_init_152 : decode cX11_init 152 = .ok (.dup, 1) := by decide +kernel
theorem dX11_init_153 : decode cX11_init 153 = .ok (.aload_n 0, 1) := by decide +kernel
theorem dX11_init_154 : decode cX11_init 154 = .ok (.getfield 81, 3) := by decide +kernel
theorem dX11_init_157 : decode cX11_init 157 = .ok (.aload_n 0, 1) := by decide +kernel
theorem dX11_init_158 : decode cX11_init 158 = .ok (.getfield 60, 3) := by decide +kernel
theorem dX11_init_161 : decode cX11_init 161 = .ok (.invokespecial 94, 3) := by decide +kernel
theorem dX11_init_164 : decode cX11_init 164 = .ok (.putfield 97, 3) := by decide +kernel
theorem dX11_init_167 : decode cX11_init 167 = .ok (.aload_n 0, 1) := by decide +kernel
theorem dX11_init_168 : decode cX11_init 168 = .ok (.bipush 7, 2) := by decide +kernel
theorem dX11_init_170 : decode cX11_init 170 = .ok (.newarray .int, 2) := by decide +kernel
theorem dX11_init_172 : decode cX11_init 172 = .ok (.putfield 101, 3) := by decide +kernel
theorem dX11_init_175 : decode cX11_init 175 = .ok (.aload_n 0, 1) := by decide +kernel
theorem dX11_init_176 : decode cX11_init 176 = .ok (.bipush 7, 2) := by decide +kernel
theorem dX11_init_178 : decode cX11_init 178 = .ok (.newarray .int, 2) := by decide +kernel
theorem dX11_init_180 : decode cX11_init 180 = .ok (.putfield 105, 3) := by decide +kernel
theorem dX11_init_183 : decode cX11_init 183 = .ok (.iconst 0, 1) := by decide +kernel
theorem dX11_init_184 : decode cX11_init 184 = .ok (.istore_n 1, 1) := by decide +kernel
theorem dX11_init_185 : decode cX11_init 185 = .ok (.iload_n 1, 1) := by decide +kernel
theorem dX11_init_186 : decode cX11_init 186 = .ok (.bipush 8, 2) := by decide +kernel
theorem dX11_init_188 : decode cX11_init 188 = .ok (.if_icmp .ge 22, 3) := by decide +kernel
theorem dX11_init_191 : decode cX11_init 191 = .ok (.aload_n 0, 1) := by decide +kernel
theorem dX11_init_192 : decode cX11_init 192 = .ok (.getfield 23, 3) := by decide +kernel
theorem dX11_init_195 : decode cX11_init 195 = .ok (.iload_n 1, 1) := by decide +kernel
theorem dX11_init_196 : decode cX11_init 196 = .ok (.new 21, 3) := by decide +kernel
theorem dX11_init_199 : decode cX11_init 199 = .ok (.dup, 1) := by decide +kernel
theorem dX11_init_200 : decode cX11_init 200 = .ok (.invokespecial 27, 3) := by decide +kernel
theorem dX11_init_203 : decode cX11_init 203 = .ok (.aastore, 1) := by decide +kernel
theorem dX11_init_204 : decode cX11_init 204 = .ok (.iinc 1 1, 3) := by decide +kernel
theorem dX11_init_207 : decode cX11_init 207 = .ok (.goto (-22), 3) := by decide +kernel
theorem dX11_init_210 : decode cX11_init 210 = .ok (.iconst 0, 1) := by decide +kernel
theorem dX11_init_211 : decode cX11_init 211 = .ok (.istore_n 1, 1) := by decide +kernel
theorem dX11_init_212 : decode cX11_init 212 = .ok (.iload_n 1, 1) := by decide +kernel
theorem dX11_init_213 : decode cX11_init 213 = .ok (.iconst 4, 1) := by decide +kernel
theorem dX11_init_214 : decode cX11_init 214 = .ok (.if_icmp .ge 22, 3) := by decide +kernel
theorem dX11_init_217 : decode cX11_init 217 = .ok (.aload_n 0, 1) := by decide +kernel
theorem dX11_init_218 : decode cX11_init 218 = .ok (.getfield 41, 3) := by decide +kernel
theorem dX11_init_221 : decode cX11_init 221 = .ok (.iload_n 1, 1) := by decide +kernel
theorem dX11_init_222 : decode cX11_init 222 = .ok (.new 39, 3) := by decide +kernel
theorem dX11_init_225 : decode cX11_init 225 = .ok (.dup, 1) := by decide +kernel
theorem dX11_init_226 : decode cX11_init 226 = .ok (.invokespecial 45, 3) := by decide +kernel
theorem dX11_init_229 : decode cX11_init 229 = .ok (.aastore, 1) := by decide +kernel
theorem dX11_init_230 : decode cX11_init 230 = .ok (.iinc 1 1, 3) := by decide +kernel
theorem dX11_init_233 : decode cX11_init 233 = .ok (.goto (-21), 3) := by decide +kernel
theorem dX11_init_236 : decode cX11_init 236 = .ok (.return_, 1) := by decide +kernel
theorem lf_11 (a : Nat) (hk : kt a = 11 + 3) : ∀ k, (k ≠ 0 ∧ k ≠ 1 ∧ k ≠ 2 ∧ k ≠ 3 ∧ k ≠ 4 ∧ k ≠ 5 ∧ k ≠ 6 ∧ k ≠ 7 ∧ k ≠ 8 ∧ k ≠ 9 ∧ k ≠ 10 ∧ k ≠ 11 ∧ k ≠ 12 ∧ k ≠ 13 ∧ k ≠ 14 ∧ k ≠ 15) → isR a k = true → hFin a k = -1 := by
  intro k hne h
  unfold isR at h
  unfold hFin
  rw [zsk_obj hk] at h ⊢
  match k, hne, h with
  | 0, hne, _ => exact absurd hne (by omega)
  | 1, hne, _ => exact absurd hne (by omega)
  | 2, hne, _ => exact absurd hne (by omega)
  | 3, hne, _ => exact absurd hne (by omega)
  | 4, hne, _ => exact absurd hne (by omega)
  | 5, hne, _ => exact absurd hne (by omega)
  | 6, hne, _ => exact absurd hne (by omega)
  | 7, hne, _ => exact absurd hne (by omega)
  | 8, hne, _ => exact absurd hne (by omega)
  | 9, hne, _ => exact absurd hne (by omega)
  | 10, hne, _ => exact absurd hne (by omega)
  | 11, hne, _ => exact absurd hne (by omega)
  | 12, hne, _ => exact absurd hne (by omega)
  | 13, hne, _ => exact absurd hne (by omega)
  | 14, hne, _ => exact absurd hne (by omega)
  | 15, hne, _ => exact absurd hne (by omega)
  | k + 16, _, h => exact Bool.noConfusion h
set_option maxHeartbeats 8000000 in
set_option maxRecDepth 100000 in
theorem kX11_init (l : Launch) (g : zG) (B : Nat) (u : Nat → Nat → Bool) : CTn l g B yX11_init cX11_init 2 3 180 12809 [.ref (B + 0)] (fun c k => if c = 0 then isR c k else u c k) (0 + 1) (fun c k => if c < 0 then u c k else false) := by
  refine n_enter (by decide) rfl rfl (Nat.le_of_ble_eq_true rfl) ?_
  intro p e s m args below meth c ls cn hn hl
  have hl : lv_has ls 2 [(0, .ref (B + 0))] := hl
  refine lv_aload_n cn.1 cn.2.1 dX11_init_0 rfl (lv_at hl 0 rfl) ?_
  refine W.objInit cn.1 cn.2.1 cn.2.2.2.1 (cn.2.2.2.2.1 _ mo_X11) (cn.2.2.2.2.1 _ zw_oi.1) (cn.2.2.2.2.1 _ zw_oi.2) rfl (hl.1.trans cn.2.2.1.symm) rfl dX11_init_1 (by decide) (Nat.le_of_ble_eq_true rfl) ?_
  refine lv_aload_n cn.1 cn.2.1 dX11_init_4 rfl (lv_at hl 0 rfl) ?_
  refine n_new cn hn tyX1 tyX1_ok rfl zin_1 (show kt 1 = 1 + 3 from by decide) rfl (nd_1 B _ (by decide)) (hfn_all _) cl_X11_9 in_X1.1 in_X1.2 (by decide) (by decide) dX11_init_5 (fun H hn => ?_)
  refine lv_dup cn.1 cn.2.1 dX11_init_8 rfl ?_
  refine lv_sipush (v := ii 400) cn.1 cn.2.1 dX11_init_9 (by decide) ?_
  refine n_run (As := [.int (ii 400)]) (rest := [.ref (B + 1), .ref (B + 0)]) (mc := 1) (ms := 400) cn hn (kX1_init l g B _ 1 (by decide) 400 (by decide)) iw_X1_init (Or.inl ml_X11_11) ⟨by decide, by decide⟩ ⟨by decide, by decide⟩ rfl hl.1 rfl (Nat.le_of_ble_eq_true rfl) dX11_init_12 (fun H locs hn => ?_)
  refine n_put cn hn tyX11 tyX11_ok nmX11 11 0 1 rfl zin_11 (by decide) (by decide) (show kt 0 = 11 + 3 from by decide) (by omega) (Or.inl rfl) (by decide) rfl (Or.inl ⟨_, rfl⟩) fl_X11_14 dX11_init_15 (fun H locs hn => ?_)
  refine lv_aload_n cn.1 cn.2.1 dX11_init_18 rfl (lv_at hl 0 rfl) ?_
  refine n_new cn hn tyX1 tyX1_ok rfl zin_1 (show kt 3 = 1 + 3 from by decide) rfl (nd_1 B _ (by decide)) (hfn_all _) cl_X11_9 in_X1.1 in_X1.2 (by decide) (by decide) dX11_init_19 (fun H hn => ?_)
  refine lv_dup cn.1 cn.2.1 dX11_init_22 rfl ?_
  refine lv_sipush (v := ii 205) cn.1 cn.2.1 dX11_init_23 (by decide) ?_
  refine n_run (As := [.int (ii 205)]) (rest := [.ref (B + 3), .ref (B + 0)]) (mc := 1) (ms := 205) cn hn (kX1_init l g B _ 3 (by decide) 205 (by decide)) iw_X1_init (Or.inl ml_X11_11) ⟨by decide, by decide⟩ ⟨by decide, by decide⟩ rfl hl.1 rfl (Nat.le_of_ble_eq_true rfl) dX11_init_26 (fun H locs hn => ?_)
  refine n_put cn hn tyX11 tyX11_ok nmX11 11 1 3 rfl zin_11 (by decide) (by decide) (show kt 0 = 11 + 3 from by decide) (by omega) (Or.inl rfl) (by decide) rfl (Or.inl ⟨_, rfl⟩) fl_X11_18 dX11_init_29 (fun H locs hn => ?_)
  refine lv_aload_n cn.1 cn.2.1 dX11_init_32 rfl (lv_at hl 0 rfl) ?_
  refine lv_bipush (v := ii 8) cn.1 cn.2.1 dX11_init_33 (by decide) ?_
  refine n_anew cn hn (by decide) (Or.inl ⟨rfl, rfl⟩) (show kt 5 = 1 from by decide) (by decide) cl_X11_21 (by decide) (by decide) dX11_init_35 (fun H hn => ?_)
  refine n_put cn hn tyX11 tyX11_ok nmX11 11 2 5 rfl zin_11 (by decide) (by decide) (show kt 0 = 11 + 3 from by decide) (by omega) (Or.inl rfl) (by decide) rfl (Or.inr ⟨_, rfl⟩) fl_X11_23 dX11_init_38 (fun H locs hn => ?_)
  refine lv_aload_n cn.1 cn.2.1 dX11_init_41 rfl (lv_at hl 0 rfl) ?_
  refine n_new cn hn tyX0 tyX0_ok rfl zin_0 (show kt 6 = 0 + 3 from by decide) rfl (nd_0 B _ (by decide)) (hfn_all _) cl_X11_21 in_X0.1 in_X0.2 (by decide) (by decide) dX11_init_42 (fun H hn => ?_)
  refine lv_dup cn.1 cn.2.1 dX11_init_45 rfl ?_
  refine n_run (As := []) (rest := [.ref (B + 6), .ref (B + 0)]) (mc := 3) (ms := 205) cn hn (kX0_init l g B _ 6 (by decide)) iw_X0_init (Or.inr ni_X11_27) ⟨by decide, by decide⟩ ⟨by decide, by decide⟩ rfl hl.1 rfl (Nat.le_of_ble_eq_true rfl) dX11_init_46 (fun H locs hn => ?_)
  refine n_put cn hn tyX11 tyX11_ok nmX11 11 3 6 rfl zin_11 (by decide) (by decide) (show kt 0 = 11 + 3 from by decide) (by omega) (Or.inl rfl) (by decide) rfl (Or.inl ⟨_, rfl⟩) fl_X11_28 dX11_init_49 (fun H locs hn => ?_)
  refine lv_aload_n cn.1 cn.2.1 dX11_init_52 rfl (lv_at hl 0 rfl) ?_
  refine n_new cn hn tyX3 tyX3_ok rfl zin_3 (show kt 10 = 3 + 3 from by decide) rfl (nd_3 B _ (by decide)) (hfn_all _) cl_X11_32 in_X3.1 in_X3.2 (by decide) (by decide) dX11_init_53 (fun H hn => ?_)
  refine lv_dup cn.1 cn.2.1 dX11_init_56 rfl ?_
  refine n_run (As := []) (rest := [.ref (B + 10), .ref (B + 0)]) (mc := 66) (ms := 3408) cn hn (kX3_init l g B _) iw_X3_init (Or.inl ml_X11_34) ⟨by decide, by decide⟩ ⟨by decide, by decide⟩ rfl hl.1 rfl (Nat.le_of_ble_eq_true rfl) dX11_init_57 (fun H locs hn => ?_)
  refine n_put cn hn tyX11 tyX11_ok nmX11 11 4 10 rfl zin_11 (by decide) (by decide) (show kt 0 = 11 + 3 from by decide) (by omega) (Or.inl rfl) (by decide) rfl (Or.inl ⟨_, rfl⟩) fl_X11_35 dX11_init_60 (fun H locs hn => ?_)
  refine lv_aload_n cn.1 cn.2.1 dX11_init_63 rfl (lv_at hl 0 rfl) ?_
  refine lv_iconst (v := ii 4) cn.1 cn.2.1 dX11_init_64 (by decide) ?_
  refine n_anew cn hn (by decide) (Or.inr ⟨rfl, rfl⟩) (show kt 77 = 2 from by decide) (by decide) cl_X11_39 (by decide) (by decide) dX11_init_65 (fun H hn => ?_)
  refine n_put cn hn tyX11 tyX11_ok nmX11 11 5 77 rfl zin_11 (by decide) (by decide) (show kt 0 = 11 + 3 from by decide) (by omega) (Or.inl rfl) (by decide) rfl (Or.inr ⟨_, rfl⟩) fl_X11_41 dX11_init_68 (fun H locs hn => ?_)
  refine lv_aload_n cn.1 cn.2.1 dX11_init_71 rfl (lv_at hl 0 rfl) ?_
  refine n_new cn hn tyX4 tyX4_ok rfl zin_4 (show kt 78 = 4 + 3 from by decide) rfl (nd_4 B _ (by decide)) (hfn_all _) cl_X11_39 in_X4.1 in_X4.2 (by decide) (by decide) dX11_init_72 (fun H hn => ?_)
  refine lv_dup cn.1 cn.2.1 dX11_init_75 rfl ?_
  refine n_run (As := []) (rest := [.ref (B + 78), .ref (B + 0)]) (mc := 7) (ms := 334) cn hn (kX4_init l g B _ 78 (by decide)) iw_X4_init (Or.inr ni_X11_45) ⟨by decide, by decide⟩ ⟨by decide, by decide⟩ rfl hl.1 rfl (Nat.le_of_ble_eq_true rfl) dX11_init_76 (fun H locs hn => ?_)
  refine n_put cn hn tyX11 tyX11_ok nmX11 11 6 78 rfl zin_11 (by decide) (by decide) (show kt 0 = 11 + 3 from by decide) (by omega) (Or.inr rfl) (by decide) rfl (Or.inl ⟨_, rfl⟩) fl_X11_46 dX11_init_79 (fun H locs hn => ?_)
  refine lv_aload_n cn.1 cn.2.1 dX11_init_82 rfl (lv_at hl 0 rfl) ?_
  refine n_new cn hn tyX10 tyX10_ok rfl zin_10 (show kt 86 = 10 + 3 from by decide) rfl (nd_10 B _ (by decide)) (hfn_all _) cl_X11_50 in_X10.1 in_X10.2 (by decide) (by decide) dX11_init_83 (fun H hn => ?_)
  refine lv_dup cn.1 cn.2.1 dX11_init_86 rfl ?_
  refine n_run (As := []) (rest := [.ref (B + 86), .ref (B + 0)]) (mc := 4) (ms := 886) cn hn (kX10_init l g B _) iw_X10_init (Or.inr ni_X11_52) ⟨by decide, by decide⟩ ⟨by decide, by decide⟩ rfl hl.1 rfl (Nat.le_of_ble_eq_true rfl) dX11_init_87 (fun H locs hn => ?_)
  refine n_put cn hn tyX11 tyX11_ok nmX11 11 7 86 rfl zin_11 (by decide) (by decide) (show kt 0 = 11 + 3 from by decide) (by omega) (Or.inl rfl) (by decide) rfl (Or.inl ⟨_, rfl⟩) fl_X11_53 dX11_init_90 (fun H locs hn => ?_)
  refine lv_aload_n cn.1 cn.2.1 dX11_init_93 rfl (lv_at hl 0 rfl) ?_
  refine n_new cn hn tyX5 tyX5_ok rfl zin_5 (show kt 91 = 5 + 3 from by decide) rfl (nd_5 B _ (by decide)) (hfn_all _) cl_X11_57 in_X5.1 in_X5.2 (by decide) (by decide) dX11_init_94 (fun H hn => ?_)
  refine lv_dup cn.1 cn.2.1 dX11_init_97 rfl ?_
  refine n_run (As := []) (rest := [.ref (B + 91), .ref (B + 0)]) (mc := 2) (ms := 83) cn hn (kX5_init l g B _) iw_X5_init (Or.inr ni_X11_59) ⟨by decide, by decide⟩ ⟨by decide, by decide⟩ rfl hl.1 rfl (Nat.le_of_ble_eq_true rfl) dX11_init_98 (fun H locs hn => ?_)
  refine n_put cn hn tyX11 tyX11_ok nmX11 11 8 91 rfl zin_11 (by decide) (by decide) (show kt 0 = 11 + 3 from by decide) (by omega) (Or.inl rfl) (by decide) rfl (Or.inl ⟨_, rfl⟩) fl_X11_60 dX11_init_101 (fun H locs hn => ?_)
  refine lv_aload_n cn.1 cn.2.1 dX11_init_104 rfl (lv_at hl 0 rfl) ?_
  refine n_new cn hn tyX2 tyX2_ok rfl zin_2 (show kt 94 = 2 + 3 from by decide) rfl (nd_2 B _ (by decide)) (hfn_all _) cl_X11_64 in_X2.1 in_X2.2 (by decide) (by decide) dX11_init_105 (fun H hn => ?_)
  refine lv_dup cn.1 cn.2.1 dX11_init_108 rfl ?_
  refine n_run (As := []) (rest := [.ref (B + 94), .ref (B + 0)]) (mc := 3) (ms := 891) cn hn (kX2_init l g B _) iw_X2_init (Or.inr ni_X11_66) ⟨by decide, by decide⟩ ⟨by decide, by decide⟩ rfl hl.1 rfl (Nat.le_of_ble_eq_true rfl) dX11_init_109 (fun H locs hn => ?_)
  refine n_put cn hn tyX11 tyX11_ok nmX11 11 9 94 rfl zin_11 (by decide) (by decide) (show kt 0 = 11 + 3 from by decide) (by omega) (Or.inl rfl) (by decide) rfl (Or.inl ⟨_, rfl⟩) fl_X11_67 dX11_init_112 (fun H locs hn => ?_)
  refine lv_aload_n cn.1 cn.2.1 dX11_init_115 rfl (lv_at hl 0 rfl) ?_
  refine n_new cn hn tyX7 tyX7_ok rfl zin_7 (show kt 98 = 7 + 3 from by decide) rfl (nd_7 B _ (by decide)) (hfn_all _) cl_X11_71 in_X7.1 in_X7.2 (by decide) (by decide) dX11_init_116 (fun H hn => ?_)
  refine lv_dup cn.1 cn.2.1 dX11_init_119 rfl ?_
  refine n_run (As := []) (rest := [.ref (B + 98), .ref (B + 0)]) (mc := 6) (ms := 798) cn hn (kX7_init l g B _) iw_X7_init (Or.inr ni_X11_73) ⟨by decide, by decide⟩ ⟨by decide, by decide⟩ rfl hl.1 rfl (Nat.le_of_ble_eq_true rfl) dX11_init_120 (fun H locs hn => ?_)
  refine n_put cn hn tyX11 tyX11_ok nmX11 11 10 98 rfl zin_11 (by decide) (by decide) (show kt 0 = 11 + 3 from by decide) (by omega) (Or.inl rfl) (by decide) rfl (Or.inl ⟨_, rfl⟩) fl_X11_74 dX11_init_123 (fun H locs hn => ?_)
  refine lv_aload_n cn.1 cn.2.1 dX11_init_126 rfl (lv_at hl 0 rfl) ?_
  refine n_new cn hn tyX6 tyX6_ok rfl zin_6 (show kt 105 = 6 + 3 from by decide) rfl (nd_6 B _ (by decide)) (hfn_all _) cl_X11_78 in_X6.1 in_X6.2 (by decide) (by decide) dX11_init_127 (fun H hn => ?_)
  refine lv_dup cn.1 cn.2.1 dX11_init_130 rfl ?_
  refine n_run (As := []) (rest := [.ref (B + 105), .ref (B + 0)]) (mc := 4) (ms := 28) cn hn (kX6_init l g B _) iw_X6_init (Or.inr ni_X11_80) ⟨by decide, by decide⟩ ⟨by decide, by decide⟩ rfl hl.1 rfl (Nat.le_of_ble_eq_true rfl) dX11_init_131 (fun H locs hn => ?_)
  refine n_put cn hn tyX11 tyX11_ok nmX11 11 11 105 rfl zin_11 (by decide) (by decide) (show kt 0 = 11 + 3 from by decide) (by omega) (Or.inl rfl) (by decide) rfl (Or.inl ⟨_, rfl⟩) fl_X11_81 dX11_init_134 (fun H locs hn => ?_)
  refine lv_aload_n cn.1 cn.2.1 dX11_init_137 rfl (lv_at hl 0 rfl) ?_
  refine n_new cn hn tyX9 tyX9_ok rfl zin_9 (show kt 110 = 9 + 3 from by decide) rfl (nd_9 B _ (by decide)) (hfn_all _) cl_X11_85 in_X9.1 in_X9.2 (by decide) (by decide) dX11_init_138 (fun H hn => ?_)
  refine lv_dup cn.1 cn.2.1 dX11_init_141 rfl ?_
  refine n_run (As := []) (rest := [.ref (B + 110), .ref (B + 0)]) (mc := 3) (ms := 2407) cn hn (kX9_init l g B _) iw_X9_init (Or.inr ni_X11_87) ⟨by decide, by decide⟩ ⟨by decide, by decide⟩ rfl hl.1 rfl (Nat.le_of_ble_eq_true rfl) dX11_init_142 (fun H locs hn => ?_)
  refine n_put cn hn tyX11 tyX11_ok nmX11 11 12 110 rfl zin_11 (by decide) (by decide) (show kt 0 = 11 + 3 from by decide) (by omega) (Or.inl rfl) (by decide) rfl (Or.inl ⟨_, rfl⟩) fl_X11_88 dX11_init_145 (fun H locs hn => ?_)
  refine lv_aload_n cn.1 cn.2.1 dX11_init_148 rfl (lv_at hl 0 rfl) ?_
  refine n_new cn hn tyX8 tyX8_ok rfl zin_8 (show kt 114 = 8 + 3 from by decide) rfl (nd_8 B _ (by decide)) (hfn_all _) cl_X11_92 in_X8.1 in_X8.2 (by decide) (by decide) dX11_init_149 (fun H hn => ?_)
  refine lv_dup cn.1 cn.2.1 dX11_init_152 rfl ?_
  refine lv_aload_n cn.1 cn.2.1 dX11_init_153 rfl (lv_at hl 0 rfl) ?_
  refine n_get cn hn 11 11 105 rfl zin_11 (by decide) (by decide) (show kt 0 = 11 + 3 from by decide) (by omega) (Or.inl rfl) (by rfl) fl_X11_81 dX11_init_154 ?_
  refine lv_aload_n cn.1 cn.2.1 dX11_init_157 rfl (lv_at hl 0 rfl) ?_
  refine n_get cn hn 11 8 91 rfl zin_11 (by decide) (by decide) (show kt 0 = 11 + 3 from by decide) (by omega) (Or.inl rfl) (by rfl) fl_X11_60 dX11_init_158 ?_
  refine n_run (As := [.ref (B + 105), .ref (B + 91)]) (rest := [.ref (B + 114), .ref (B + 0)]) (mc := 0) (ms := 0) cn hn (kX8_init l g B _) iw_X8_init (Or.inl ml_X11_94) ⟨by decide, by decide⟩ ⟨by decide, by decide⟩ rfl hl.1 rfl (Nat.le_of_ble_eq_true rfl) dX11_init_161 (fun H locs hn => ?_)
  refine n_put cn hn tyX11 tyX11_ok nmX11 11 13 114 rfl zin_11 (by decide) (by decide) (show kt 0 = 11 + 3 from by decide) (by omega) (Or.inl rfl) (by decide) rfl (Or.inl ⟨_, rfl⟩) fl_X11_97 dX11_init_164 (fun H locs hn => ?_)
  refine lv_aload_n cn.1 cn.2.1 dX11_init_167 rfl (lv_at hl 0 rfl) ?_
  refine lv_bipush (v := ii 7) cn.1 cn.2.1 dX11_init_168 (by decide) ?_
  refine n_newa cn hn (by decide) (show kt 115 = 0 from by decide) (by decide) (by decide) (by decide) dX11_init_170 (fun H hn => ?_)
  refine n_put cn hn tyX11 tyX11_ok nmX11 11 14 115 rfl zin_11 (by decide) (by decide) (show kt 0 = 11 + 3 from by decide) (by omega) (Or.inl rfl) (by decide) rfl (Or.inr ⟨_, rfl⟩) fl_X11_101 dX11_init_172 (fun H locs hn => ?_)
  refine lv_aload_n cn.1 cn.2.1 dX11_init_175 rfl (lv_at hl 0 rfl) ?_
  refine lv_bipush (v := ii 7) cn.1 cn.2.1 dX11_init_176 (by decide) ?_
  refine n_newa cn hn (by decide) (show kt 116 = 0 from by decide) (by decide) (by decide) (by decide) dX11_init_178 (fun H hn => ?_)
  refine n_put cn hn tyX11 tyX11_ok nmX11 11 15 116 rfl zin_11 (by decide) (by decide) (show kt 0 = 11 + 3 from by decide) (by omega) (Or.inl rfl) (by decide) rfl (Or.inr ⟨_, rfl⟩) fl_X11_105 dX11_init_180 (fun H locs hn => ?_)
  refine lv_iconst (v := ii 0) cn.1 cn.2.1 dX11_init_183 (by decide) ?_
  refine lv_istore_n (lv' := [(1, .int (ii 0)), (0, .ref (B + 0))]) cn.1 cn.2.1 dX11_init_184 rfl hl (by decide) rfl (fun ls hl => ?_)
  refine lv_iload_n cn.1 cn.2.1 dX11_init_185 rfl (lv_at hl 0 rfl) ?_
  refine lv_bipush (v := ii 8) cn.1 cn.2.1 dX11_init_186 (by decide) ?_
  refine lv_icmp_ge (tgt := 210) cn.1 cn.2.1 dX11_init_188 (by decide) (fun q => absurd q (by decide)) (fun _ => ?_)
  refine lv_aload_n cn.1 cn.2.1 dX11_init_191 rfl (lv_at hl 1 rfl) ?_
  refine n_get cn hn 11 2 5 rfl zin_11 (by decide) (by decide) (show kt 0 = 11 + 3 from by decide) (by omega) (Or.inl rfl) (by rfl) fl_X11_23 dX11_init_192 ?_
  refine lv_iload_n cn.1 cn.2.1 dX11_init_195 rfl (lv_at hl 0 rfl) ?_
  refine n_new cn hn tyX0 tyX0_ok rfl zin_0 (show kt 117 = 0 + 3 from by decide) rfl (nd_0 B _ (by decide)) (hfn_all _) cl_X11_21 in_X0.1 in_X0.2 (by decide) (by decide) dX11_init_196 (fun H hn => ?_)
  refine lv_dup cn.1 cn.2.1 dX11_init_199 rfl ?_
  refine n_run (As := []) (rest := [.ref (B + 117), .int (ii 0), .ref (B + 5)]) (mc := 3) (ms := 205) cn hn (kX0_init l g B _ 117 (by decide)) iw_X0_init (Or.inr ni_X11_27) ⟨by decide, by decide⟩ ⟨by decide, by decide⟩ rfl hl.1 rfl (Nat.le_of_ble_eq_true rfl) dX11_init_200 (fun H locs hn => ?_)
  refine n_aast cn hn (by decide) (Or.inl ⟨rfl, rfl, rfl⟩) (show kt 5 = 1 from by decide) (by omega) (show kt 117 = 0 + 3 from by decide) (by omega) (by decide) (by decide) dX11_init_203 (fun H locs hn => ?_)
  refine lv_iinc (v := ii 1) (lv' := [(1, .int (ii 1)), (0, .ref (B + 0))]) cn.1 cn.2.1 dX11_init_204 hl (k := 0) rfl (by decide) (by decide) rfl (fun ls hl => ?_)
  refine lv_goto (tgt := 185) cn.1 cn.2.1 dX11_init_207 (by decide) ?_
  refine lv_iload_n cn.1 cn.2.1 dX11_init_185 rfl (lv_at hl 0 rfl) ?_
  refine lv_bipush (v := ii 8) cn.1 cn.2.1 dX11_init_186 (by decide) ?_
  refine lv_icmp_ge (tgt := 210) cn.1 cn.2.1 dX11_init_188 (by decide) (fun q => absurd q (by decide)) (fun _ => ?_)
  refine lv_aload_n cn.1 cn.2.1 dX11_init_191 rfl (lv_at hl 1 rfl) ?_
  refine n_get cn hn 11 2 5 rfl zin_11 (by decide) (by decide) (show kt 0 = 11 + 3 from by decide) (by omega) (Or.inl rfl) (by rfl) fl_X11_23 dX11_init_192 ?_
  refine lv_iload_n cn.1 cn.2.1 dX11_init_195 rfl (lv_at hl 0 rfl) ?_
  refine n_new cn hn tyX0 tyX0_ok rfl zin_0 (show kt 121 = 0 + 3 from by decide) rfl (nd_0 B _ (by decide)) (hfn_all _) cl_X11_21 in_X0.1 in_X0.2 (by decide) (by decide) dX11_init_196 (fun H hn => ?_)
  refine lv_dup cn.1 cn.2.1 dX11_init_199 rfl ?_
  refine n_run (As := []) (rest := [.ref (B + 121), .int (ii 1), .ref (B + 5)]) (mc := 3) (ms := 205) cn hn (kX0_init l g B _ 121 (by decide)) iw_X0_init (Or.inr ni_X11_27) ⟨by decide, by decide⟩ ⟨by decide, by decide⟩ rfl hl.1 rfl (Nat.le_of_ble_eq_true rfl) dX11_init_200 (fun H locs hn => ?_)
  refine n_aast cn hn (by decide) (Or.inl ⟨rfl, rfl, rfl⟩) (show kt 5 = 1 from by decide) (by omega) (show kt 121 = 0 + 3 from by decide) (by omega) (by decide) (by decide) dX11_init_203 (fun H locs hn => ?_)
  refine lv_iinc (v := ii 2) (lv' := [(1, .int (ii 2)), (0, .ref (B + 0))]) cn.1 cn.2.1 dX11_init_204 hl (k := 0) rfl (by decide) (by decide) rfl (fun ls hl => ?_)
  refine lv_goto (tgt := 185) cn.1 cn.2.1 dX11_init_207 (by decide) ?_
  refine lv_iload_n cn.1 cn.2.1 dX11_init_185 rfl (lv_at hl 0 rfl) ?_
  refine lv_bipush (v := ii 8) cn.1 cn.2.1 dX11_init_186 (by decide) ?_
  refine lv_icmp_ge (tgt := 210) cn.1 cn.2.1 dX11_init_188 (by decide) (fun q => absurd q (by decide)) (fun _ => ?_)
  refine lv_aload_n cn.1 cn.2.1 dX11_init_191 rfl (lv_at hl 1 rfl) ?_
  refine n_get cn hn 11 2 5 rfl zin_11 (by decide) (by decide) (show kt 0 = 11 + 3 from by decide) (by omega) (Or.inl rfl) (by rfl) fl_X11_23 dX11_init_192 ?_
  refine lv_iload_n cn.1 cn.2.1 dX11_init_195 rfl (lv_at hl 0 rfl) ?_
  refine n_new cn hn tyX0 tyX0_ok rfl zin_0 (show kt 125 = 0 + 3 from by decide) rfl (nd_0 B _ (by decide)) (hfn_all _) cl_X11_21 in_X0.1 in_X0.2 (by decide) (by decide) dX11_init_196 (fun H hn => ?_)
  refine lv_dup cn.1 cn.2.1 dX11_init_199 rfl ?_
  refine n_run (As := []) (rest := [.ref (B + 125), .int (ii 2), .ref (B + 5)]) (mc := 3) (ms := 205) cn hn (kX0_init l g B _ 125 (by decide)) iw_X0_init (Or.inr ni_X11_27) ⟨by decide, by decide⟩ ⟨by decide, by decide⟩ rfl hl.1 rfl (Nat.le_of_ble_eq_true rfl) dX11_init_200 (fun H locs hn => ?_)
  refine n_aast cn hn (by decide) (Or.inl ⟨rfl, rfl, rfl⟩) (show kt 5 = 1 from by decide) (by omega) (show kt 125 = 0 + 3 from by decide) (by omega) (by decide) (by decide) dX11_init_203 (fun H locs hn => ?_)
  refine lv_iinc (v := ii 3) (lv' := [(1, .int (ii 3)), (0, .ref (B + 0))]) cn.1 cn.2.1 dX11_init_204 hl (k := 0) rfl (by decide) (by decide) rfl (fun ls hl => ?_)
  refine lv_goto (tgt := 185) cn.1 cn.2.1 dX11_init_207 (by decide) ?_
  refine lv_iload_n cn.1 cn.2.1 dX11_init_185 rfl (lv_at hl 0 rfl) ?_
  refine lv_bipush (v := ii 8) cn.1 cn.2.1 dX11_init_186 (by decide) ?_
  refine lv_icmp_ge (tgt := 210) cn.1 cn.2.1 dX11_init_188 (by decide) (fun q => absurd q (by decide)) (fun _ => ?_)
  refine lv_aload_n cn.1 cn.2.1 dX11_init_191 rfl (lv_at hl 1 rfl) ?_
  refine n_get cn hn 11 2 5 rfl zin_11 (by decide) (by decide) (show kt 0 = 11 + 3 from by decide) (by omega) (Or.inl rfl) (by rfl) fl_X11_23 dX11_init_192 ?_
  refine lv_iload_n cn.1 cn.2.1 dX11_init_195 rfl (lv_at hl 0 rfl) ?_
  refine n_new cn hn tyX0 tyX0_ok rfl zin_0 (show kt 129 = 0 + 3 from by decide) rfl (nd_0 B _ (by decide)) (hfn_all _) cl_X11_21 in_X0.1 in_X0.2 (by decide) (by decide) dX11_init_196 (fun H hn => ?_)
  refine lv_dup cn.1 cn.2.1 dX11_init_199 rfl ?_
  refine n_run (As := []) (rest := [.ref (B + 129), .int (ii 3), .ref (B + 5)]) (mc := 3) (ms := 205) cn hn (kX0_init l g B _ 129 (by decide)) iw_X0_init (Or.inr ni_X11_27) ⟨by decide, by decide⟩ ⟨by decide, by decide⟩ rfl hl.1 rfl (Nat.le_of_ble_eq_true rfl) dX11_init_200 (fun H locs hn => ?_)
  refine n_aast cn hn (by decide) (Or.inl ⟨rfl, rfl, rfl⟩) (show kt 5 = 1 from by decide) (by omega) (show kt 129 = 0 + 3 from by decide) (by omega) (by decide) (by decide) dX11_init_203 (fun H locs hn => ?_)
  refine lv_iinc (v := ii 4) (lv' := [(1, .int (ii 4)), (0, .ref (B + 0))]) cn.1 cn.2.1 dX11_init_204 hl (k := 0) rfl (by decide) (by decide) rfl (fun ls hl => ?_)
  refine lv_goto (tgt := 185) cn.1 cn.2.1 dX11_init_207 (by decide) ?_
  refine lv_iload_n cn.1 cn.2.1 dX11_init_185 rfl (lv_at hl 0 rfl) ?_
  refine lv_bipush (v := ii 8) cn.1 cn.2.1 dX11_init_186 (by decide) ?_
  refine lv_icmp_ge (tgt := 210) cn.1 cn.2.1 dX11_init_188 (by decide) (fun q => absurd q (by decide)) (fun _ => ?_)
  refine lv_aload_n cn.1 cn.2.1 dX11_init_191 rfl (lv_at hl 1 rfl) ?_
  refine n_get cn hn 11 2 5 rfl zin_11 (by decide) (by decide) (show kt 0 = 11 + 3 from by decide) (by omega) (Or.inl rfl) (by rfl) fl_X11_23 dX11_init_192 ?_
  refine lv_iload_n cn.1 cn.2.1 dX11_init_195 rfl (lv_at hl 0 rfl) ?_
  refine n_new cn hn tyX0 tyX0_ok rfl zin_0 (show kt 133 = 0 + 3 from by decide) rfl (nd_0 B _ (by decide)) (hfn_all _) cl_X11_21 in_X0.1 in_X0.2 (by decide) (by decide) dX11_init_196 (fun H hn => ?_)
  refine lv_dup cn.1 cn.2.1 dX11_init_199 rfl ?_
  refine n_run (As := []) (rest := [.ref (B + 133), .int (ii 4), .ref (B + 5)]) (mc := 3) (ms := 205) cn hn (kX0_init l g B _ 133 (by decide)) iw_X0_init (Or.inr ni_X11_27) ⟨by decide, by decide⟩ ⟨by decide, by decide⟩ rfl hl.1 rfl (Nat.le_of_ble_eq_true rfl) dX11_init_200 (fun H locs hn => ?_)
  refine n_aast cn hn (by decide) (Or.inl ⟨rfl, rfl, rfl⟩) (show kt 5 = 1 from by decide) (by omega) (show kt 133 = 0 + 3 from by decide) (by omega) (by decide) (by decide) dX11_init_203 (fun H locs hn => ?_)
  refine lv_iinc (v := ii 5) (lv' := [(1, .int (ii 5)), (0, .ref (B + 0))]) cn.1 cn.2.1 dX11_init_204 hl (k := 0) rfl (by decide) (by decide) rfl (fun ls hl => ?_)
  refine lv_goto (tgt := 185) cn.1 cn.2.1 dX11_init_207 (by decide) ?_
  refine lv_iload_n cn.1 cn.2.1 dX11_init_185 rfl (lv_at hl 0 rfl) ?_
  refine lv_bipush (v := ii 8) cn.1 cn.2.1 dX11_init_186 (by decide) ?_
  refine lv_icmp_ge (tgt := 210) cn.1 cn.2.1 dX11_init_188 (by decide) (fun q => absurd q (by decide)) (fun _ => ?_)
  refine lv_aload_n cn.1 cn.2.1 dX11_init_191 rfl (lv_at hl 1 rfl) ?_
  refine n_get cn hn 11 2 5 rfl zin_11 (by decide) (by decide) (show kt 0 = 11 + 3 from by decide) (by omega) (Or.inl rfl) (by rfl) fl_X11_23 dX11_init_192 ?_
  refine lv_iload_n cn.1 cn.2.1 dX11_init_195 rfl (lv_at hl 0 rfl) ?_
  refine n_new cn hn tyX0 tyX0_ok rfl zin_0 (show kt 137 = 0 + 3 from by decide) rfl (nd_0 B _ (by decide)) (hfn_all _) cl_X11_21 in_X0.1 in_X0.2 (by decide) (by decide) dX11_init_196 (fun H hn => ?_)
  refine lv_dup cn.1 cn.2.1 dX11_init_199 rfl ?_
  refine n_run (As := []) (rest := [.ref (B + 137), .int (ii 5), .ref (B + 5)]) (mc := 3) (ms := 205) cn hn (kX0_init l g B _ 137 (by decide)) iw_X0_init (Or.inr ni_X11_27) ⟨by decide, by decide⟩ ⟨by decide, by decide⟩ rfl hl.1 rfl (Nat.le_of_ble_eq_true rfl) dX11_init_200 (fun H locs hn => ?_)
  refine n_aast cn hn (by decide) (Or.inl ⟨rfl, rfl, rfl⟩) (show kt 5 = 1 from by decide) (by omega) (show kt 137 = 0 + 3 from by decide) (by omega) (by decide) (by decide) dX11_init_203 (fun H locs hn => ?_)
  refine lv_iinc (v := ii 6) (lv' := [(1, .int (ii 6)), (0, .ref (B + 0))]) cn.1 cn.2.1 dX11_init_204 hl (k := 0) rfl (by decide) (by decide) rfl (fun ls hl => ?_)
  refine lv_goto (tgt := 185) cn.1 cn.2.1 dX11_init_207 (by decide) ?_
  refine lv_iload_n cn.1 cn.2.1 dX11_init_185 rfl (lv_at hl 0 rfl) ?_
  refine lv_bipush (v := ii 8) cn.1 cn.2.1 dX11_init_186 (by decide) ?_
  refine lv_icmp_ge (tgt := 210) cn.1 cn.2.1 dX11_init_188 (by decide) (fun q => absurd q (by decide)) (fun _ => ?_)
  refine lv_aload_n cn.1 cn.2.1 dX11_init_191 rfl (lv_at hl 1 rfl) ?_
  refine n_get cn hn 11 2 5 rfl zin_11 (by decide) (by decide) (show kt 0 = 11 + 3 from by decide) (by omega) (Or.inl rfl) (by rfl) fl_X11_23 dX11_init_192 ?_
  refine lv_iload_n cn.1 cn.2.1 dX11_init_195 rfl (lv_at hl 0 rfl) ?_
  refine n_new cn hn tyX0 tyX0_ok rfl zin_0 (show kt 141 = 0 + 3 from by decide) rfl (nd_0 B _ (by decide)) (hfn_all _) cl_X11_21 in_X0.1 in_X0.2 (by decide) (by decide) dX11_init_196 (fun H hn => ?_)
  refine lv_dup cn.1 cn.2.1 dX11_init_199 rfl ?_
  refine n_run (As := []) (rest := [.ref (B + 141), .int (ii 6), .ref (B + 5)]) (mc := 3) (ms := 205) cn hn (kX0_init l g B _ 141 (by decide)) iw_X0_init (Or.inr ni_X11_27) ⟨by decide, by decide⟩ ⟨by decide, by decide⟩ rfl hl.1 rfl (Nat.le_of_ble_eq_true rfl) dX11_init_200 (fun H locs hn => ?_)
  refine n_aast cn hn (by decide) (Or.inl ⟨rfl, rfl, rfl⟩) (show kt 5 = 1 from by decide) (by omega) (show kt 141 = 0 + 3 from by decide) (by omega) (by decide) (by decide) dX11_init_203 (fun H locs hn => ?_)
  refine lv_iinc (v := ii 7) (lv' := [(1, .int (ii 7)), (0, .ref (B + 0))]) cn.1 cn.2.1 dX11_init_204 hl (k := 0) rfl (by decide) (by decide) rfl (fun ls hl => ?_)
  refine lv_goto (tgt := 185) cn.1 cn.2.1 dX11_init_207 (by decide) ?_
  refine lv_iload_n cn.1 cn.2.1 dX11_init_185 rfl (lv_at hl 0 rfl) ?_
  refine lv_bipush (v := ii 8) cn.1 cn.2.1 dX11_init_186 (by decide) ?_
  refine lv_icmp_ge (tgt := 210) cn.1 cn.2.1 dX11_init_188 (by decide) (fun q => absurd q (by decide)) (fun _ => ?_)
  refine lv_aload_n cn.1 cn.2.1 dX11_init_191 rfl (lv_at hl 1 rfl) ?_
  refine n_get cn hn 11 2 5 rfl zin_11 (by decide) (by decide) (show kt 0 = 11 + 3 from by decide) (by omega) (Or.inl rfl) (by rfl) fl_X11_23 dX11_init_192 ?_
  refine lv_iload_n cn.1 cn.2.1 dX11_init_195 rfl (lv_at hl 0 rfl) ?_
  refine n_new cn hn tyX0 tyX0_ok rfl zin_0 (show kt 145 = 0 + 3 from by decide) rfl (nd_0 B _ (by decide)) (hfn_all _) cl_X11_21 in_X0.1 in_X0.2 (by decide) (by decide) dX11_init_196 (fun H hn => ?_)
  refine lv_dup cn.1 cn.2.1 dX11_init_199 rfl ?_
  refine n_run (As := []) (rest := [.ref (B + 145), .int (ii 7), .ref (B + 5)]) (mc := 3) (ms := 205) cn hn (kX0_init l g B _ 145 (by decide)) iw_X0_init (Or.inr ni_X11_27) ⟨by decide, by decide⟩ ⟨by decide, by decide⟩ rfl hl.1 rfl (Nat.le_of_ble_eq_true rfl) dX11_init_200 (fun H locs hn => ?_)
  refine n_aast cn hn (by decide) (Or.inl ⟨rfl, rfl, rfl⟩) (show kt 5 = 1 from by decide) (by omega) (show kt 145 = 0 + 3 from by decide) (by omega) (by decide) (by decide) dX11_init_203 (fun H locs hn => ?_)
  refine lv_iinc (v := ii 8) (lv' := [(1, .int (ii 8)), (0, .ref (B + 0))]) cn.1 cn.2.1 dX11_init_204 hl (k := 0) rfl (by decide) (by decide) rfl (fun ls hl => ?_)
  refine lv_goto (tgt := 185) cn.1 cn.2.1 dX11_init_207 (by decide) ?_
  refine lv_iload_n cn.1 cn.2.1 dX11_init_185 rfl (lv_at hl 0 rfl) ?_
  refine lv_bipush (v := ii 8) cn.1 cn.2.1 dX11_init_186 (by decide) ?_
  refine lv_icmp_ge (tgt := 210) cn.1 cn.2.1 dX11_init_188 (by decide) (fun _ => ?_) (fun q => absurd (by decide) q)
  refine lv_iconst (v := ii 0) cn.1 cn.2.1 dX11_init_210 (by decide) ?_
  refine lv_istore_n (lv' := [(1, .int (ii 0)), (0, .ref (B + 0))]) cn.1 cn.2.1 dX11_init_211 rfl hl (by decide) rfl (fun ls hl => ?_)
  refine lv_iload_n cn.1 cn.2.1 dX11_init_212 rfl (lv_at hl 0 rfl) ?_
  refine lv_iconst (v := ii 4) cn.1 cn.2.1 dX11_init_213 (by decide) ?_
  refine lv_icmp_ge (tgt := 236) cn.1 cn.2.1 dX11_init_214 (by decide) (fun q => absurd q (by decide)) (fun _ => ?_)
  refine lv_aload_n cn.1 cn.2.1 dX11_init_217 rfl (lv_at hl 1 rfl) ?_
  refine n_get cn hn 11 5 77 rfl zin_11 (by decide) (by decide) (show kt 0 = 11 + 3 from by decide) (by omega) (Or.inl rfl) (by rfl) fl_X11_41 dX11_init_218 ?_
  refine lv_iload_n cn.1 cn.2.1 dX11_init_221 rfl (lv_at hl 0 rfl) ?_
  refine n_new cn hn tyX4 tyX4_ok rfl zin_4 (show kt 149 = 4 + 3 from by decide) rfl (nd_4 B _ (by decide)) (hfn_all _) cl_X11_39 in_X4.1 in_X4.2 (by decide) (by decide) dX11_init_222 (fun H hn => ?_)
  refine lv_dup cn.1 cn.2.1 dX11_init_225 rfl ?_
  refine n_run (As := []) (rest := [.ref (B + 149), .int (ii 0), .ref (B + 77)]) (mc := 7) (ms := 334) cn hn (kX4_init l g B _ 149 (by decide)) iw_X4_init (Or.inr ni_X11_45) ⟨by decide, by decide⟩ ⟨by decide, by decide⟩ rfl hl.1 rfl (Nat.le_of_ble_eq_true rfl) dX11_init_226 (fun H locs hn => ?_)
  refine n_aast cn hn (by decide) (Or.inr ⟨rfl, rfl, rfl⟩) (show kt 77 = 2 from by decide) (by omega) (show kt 149 = 4 + 3 from by decide) (by omega) (by decide) (by decide) dX11_init_229 (fun H locs hn => ?_)
  refine lv_iinc (v := ii 1) (lv' := [(1, .int (ii 1)), (0, .ref (B + 0))]) cn.1 cn.2.1 dX11_init_230 hl (k := 0) rfl (by decide) (by decide) rfl (fun ls hl => ?_)
  refine lv_goto (tgt := 212) cn.1 cn.2.1 dX11_init_233 (by decide) ?_
  refine lv_iload_n cn.1 cn.2.1 dX11_init_212 rfl (lv_at hl 0 rfl) ?_
  refine lv_iconst (v := ii 4) cn.1 cn.2.1 dX11_init_213 (by decide) ?_
  refine lv_icmp_ge (tgt := 236) cn.1 cn.2.1 dX11_init_214 (by decide) (fun q => absurd q (by decide)) (fun _ => ?_)
  refine lv_aload_n cn.1 cn.2.1 dX11_init_217 rfl (lv_at hl 1 rfl) ?_
  refine n_get cn hn 11 5 77 rfl zin_11 (by decide) (by decide) (show kt 0 = 11 + 3 from by decide) (by omega) (Or.inl rfl) (by rfl) fl_X11_41 dX11_init_218 ?_
  refine lv_iload_n cn.1 cn.2.1 dX11_init_221 rfl (lv_at hl 0 rfl) ?_
  refine n_new cn hn tyX4 tyX4_ok rfl zin_4 (show kt 157 = 4 + 3 from by decide) rfl (nd_4 B _ (by decide)) (hfn_all _) cl_X11_39 in_X4.1 in_X4.2 (by decide) (by decide) dX11_init_222 (fun H hn => ?_)
  refine lv_dup cn.1 cn.2.1 dX11_init_225 rfl ?_
  refine n_run (As := []) (rest := [.ref (B + 157), .int (ii 1), .ref (B + 77)]) (mc := 7) (ms := 334) cn hn (kX4_init l g B _ 157 (by decide)) iw_X4_init (Or.inr ni_X11_45) ⟨by decide, by decide⟩ ⟨by decide, by decide⟩ rfl hl.1 rfl (Nat.le_of_ble_eq_true rfl) dX11_init_226 (fun H locs hn => ?_)
  refine n_aast cn hn (by decide) (Or.inr ⟨rfl, rfl, rfl⟩) (show kt 77 = 2 from by decide) (by omega) (show kt 157 = 4 + 3 from by decide) (by omega) (by decide) (by decide) dX11_init_229 (fun H locs hn => ?_)
  refine lv_iinc (v := ii 2) (lv' := [(1, .int (ii 2)), (0, .ref (B + 0))]) cn.1 cn.2.1 dX11_init_230 hl (k := 0) rfl (by decide) (by decide) rfl (fun ls hl => ?_)
  refine lv_goto (tgt := 212) cn.1 cn.2.1 dX11_init_233 (by decide) ?_
  refine lv_iload_n cn.1 cn.2.1 dX11_init_212 rfl (lv_at hl 0 rfl) ?_
  refine lv_iconst (v := ii 4) cn.1 cn.2.1 dX11_init_213 (by decide) ?_
  refine lv_icmp_ge (tgt := 236) cn.1 cn.2.1 dX11_init_214 (by decide) (fun q => absurd q (by decide)) (fun _ => ?_)
  refine lv_aload_n cn.1 cn.2.1 dX11_init_217 rfl (lv_at hl 1 rfl) ?_
  refine n_get cn hn 11 5 77 rfl zin_11 (by decide) (by decide) (show kt 0 = 11 + 3 from by decide) (by omega) (Or.inl rfl) (by rfl) fl_X11_41 dX11_init_218 ?_
  refine lv_iload_n cn.1 cn.2.1 dX11_init_221 rfl (lv_at hl 0 rfl) ?_
  refine n_new cn hn tyX4 tyX4_ok rfl zin_4 (show kt 165 = 4 + 3 from by decide) rfl (nd_4 B _ (by decide)) (hfn_all _) cl_X11_39 in_X4.1 in_X4.2 (by decide) (by decide) dX11_init_222 (fun H hn => ?_)
  refine lv_dup cn.1 cn.2.1 dX11_init_225 rfl ?_
  refine n_run (As := []) (rest := [.ref (B + 165), .int (ii 2), .ref (B + 77)]) (mc := 7) (ms := 334) cn hn (kX4_init l g B _ 165 (by decide)) iw_X4_init (Or.inr ni_X11_45) ⟨by decide, by decide⟩ ⟨by decide, by decide⟩ rfl hl.1 rfl (Nat.le_of_ble_eq_true rfl) dX11_init_226 (fun H locs hn => ?_)
  refine n_aast cn hn (by decide) (Or.inr ⟨rfl, rfl, rfl⟩) (show kt 77 = 2 from by decide) (by omega) (show kt 165 = 4 + 3 from by decide) (by omega) (by decide) (by decide) dX11_init_229 (fun H locs hn => ?_)
  refine lv_iinc (v := ii 3) (lv' := [(1, .int (ii 3)), (0, .ref (B + 0))]) cn.1 cn.2.1 dX11_init_230 hl (k := 0) rfl (by decide) (by decide) rfl (fun ls hl => ?_)
  refine lv_goto (tgt := 212) cn.1 cn.2.1 dX11_init_233 (by decide) ?_
  refine lv_iload_n cn.1 cn.2.1 dX11_init_212 rfl (lv_at hl 0 rfl) ?_
  refine lv_iconst (v := ii 4) cn.1 cn.2.1 dX11_init_213 (by decide) ?_
  refine lv_icmp_ge (tgt := 236) cn.1 cn.2.1 dX11_init_214 (by decide) (fun q => absurd q (by decide)) (fun _ => ?_)
  refine lv_aload_n cn.1 cn.2.1 dX11_init_217 rfl (lv_at hl 1 rfl) ?_
  refine n_get cn hn 11 5 77 rfl zin_11 (by decide) (by decide) (show kt 0 = 11 + 3 from by decide) (by omega) (Or.inl rfl) (by rfl) fl_X11_41 dX11_init_218 ?_
  refine lv_iload_n cn.1 cn.2.1 dX11_init_221 rfl (lv_at hl 0 rfl) ?_
  refine n_new cn hn tyX4 tyX4_ok rfl zin_4 (show kt 173 = 4 + 3 from by decide) rfl (nd_4 B _ (by decide)) (hfn_all _) cl_X11_39 in_X4.1 in_X4.2 (by decide) (by decide) dX11_init_222 (fun H hn => ?_)
  refine lv_dup cn.1 cn.2.1 dX11_init_225 rfl ?_
  refine n_run (As := []) (rest := [.ref (B + 173), .int (ii 3), .ref (B + 77)]) (mc := 7) (ms := 334) cn hn (kX4_init l g B _ 173 (by decide)) iw_X4_init (Or.inr ni_X11_45) ⟨by decide, by decide⟩ ⟨by decide, by decide⟩ rfl hl.1 rfl (Nat.le_of_ble_eq_true rfl) dX11_init_226 (fun H locs hn => ?_)
  refine n_aast cn hn (by decide) (Or.inr ⟨rfl, rfl, rfl⟩) (show kt 77 = 2 from by decide) (by omega) (show kt 173 = 4 + 3 from by decide) (by omega) (by decide) (by decide) dX11_init_229 (fun H locs hn => ?_)
  refine lv_iinc (v := ii 4) (lv' := [(1, .int (ii 4)), (0, .ref (B + 0))]) cn.1 cn.2.1 dX11_init_230 hl (k := 0) rfl (by decide) (by decide) rfl (fun ls hl => ?_)
  refine lv_goto (tgt := 212) cn.1 cn.2.1 dX11_init_233 (by decide) ?_
  refine lv_iload_n cn.1 cn.2.1 dX11_init_212 rfl (lv_at hl 0 rfl) ?_
  refine lv_iconst (v := ii 4) cn.1 cn.2.1 dX11_init_213 (by decide) ?_
  refine lv_icmp_ge (tgt := 236) cn.1 cn.2.1 dX11_init_214 (by decide) (fun _ => ?_) (fun q => absurd (by decide) q)
  refine W.widen (k := 180) (n := 12809) (by omega) (by decide) ?_
  refine n_vret (n0 := 0 + 1) cn hn rfl (he_gen ?_ ?_) dX11_init_236
  · intro c k hc
    dsimp only
    repeat (first | rw [if_neg (by omega)] | rw [if_pos (by omega)])
  · intro c k h1 h2 hv
    dsimp only at hv
    repeat' (split at hv)
    all_goals first | exact Bool.noConfusion hv | (exfalso; omega) | (have hc0 : c = 0 := by omega
                                                          subst hc0
                                                          exact lf_11 _ (by decide) k (by omega) hv) | (exfalso; have hq := of_decide_eq_true hv; have e5 : kl 5 = 8 := by decide
                                                                                                have e11 : kl 11 = 16 := by decide
                                                                                                have e77 : kl 77 = 4 := by decide
                                                                                                omega)
theorem dX12_init_0 : decode cX12_init 0 = .ok (.aload_n 0, 1) := by decide +kernel
theorem dX12_init_1 : decode cX12_init 1 = .ok (.invokespecial 1, 3) := by decide +kernel
theorem dX12_init_4 : decode cX12_init 4 = .ok (.aload_n 0, 1) := by decide +kernel
theorem dX12_init_5 : decode cX12_init 5 = .ok (.sipush 400, 3) := by decide +kernel
theorem dX12_init_8 : decode cX12_init 8 = .ok (.newarray .int, 2) := by decide +kernel
theorem dX12_init_10 : decode cX12_init 10 = .ok (.putfield 7, 3) := by decide +kernel
theorem dX12_init_13 : decode cX12_init 13 = .ok (.aload_n 0, 1) := by decide +kernel
theorem dX12_init_14 : decode cX12_init 14 = .ok (.sipush 210, 3) := by decide +kernel
theorem dX12_init_17 : decode cX12_init 17 = .ok (.newarray .int, 2) := by decide +kernel
theorem dX12_init_19 : decode cX12_init 19 = .ok (.putfield 13, 3) := by decide +kernel
theorem dX12_init_22 : decode cX12_init 22 = .ok (.aload_n 0, 1) := by decide +kernel
theorem dX12_init_23 : decode cX12_init 23 = .ok (.bipush 10, 2) := by decide +kernel
theorem dX12_init_25 : decode cX12_init 25 = .ok (.newarray .int, 2) := by decide +kernel
theorem dX12_init_27 : decode cX12_init 27 = .ok (.putfield 16, 3) := by decide +kernel
theorem dX12_init_30 : decode cX12_init 30 = .ok (.aload_n 0, 1) := by decide +kernel
theorem dX12_init_31 : decode cX12_init 31 = .ok (.bipush 10, 2) := by decide +kernel
theorem dX12_init_33 : decode cX12_init 33 = .ok (.newarray .int, 2) := by decide +kernel
theorem dX12_init_35 : decode cX12_init 35 = .ok (.putfield 19, 3) := by decide +kernel
theorem dX12_init_38 : decode cX12_init 38 = .ok (.aload_n 0, 1) := by decide +kernel
theorem dX12_init_39 : decode cX12_init 39 = .ok (.bipush 40, 2) := by decide +kernel
theorem dX12_init_41 : decode cX12_init 41 = .ok (.newarray .int, 2) := by decide +kernel
theorem dX12_init_43 : decode cX12_init 43 = .ok (.putfield 22, 3) := by decide +kernel
theorem dX12_init_46 : decode cX12_init 46 = .ok (.aload_n 0, 1) := by decide +kernel
theorem dX12_init_47 : decode cX12_init 47 = .ok (.sipush 1960, 3) := by decide +kernel
theorem dX12_init_50 : decode cX12_init 50 = .ok (.newarray .int, 2) := by decide +kernel
theorem dX12_init_52 : decode cX12_init 52 = .ok (.putfield 25, 3) := by decide +kernel
theorem dX12_init_55 : decode cX12_init 55 = .ok (.aload_n 0, 1) := by decide +kernel
theorem dX12_init_56 : decode cX12_init 56 = .ok (.bipush 16, 2) := by decide +kernel
theorem dX12_init_58 : decode cX12_init 58 = .ok (.newarray .int, 2) := by decide +kernel
theorem dX12_init_60 : decode cX12_init 60 = .ok (.putfield 28, 3) := by decide +kernel
theorem dX12_init_63 : decode cX12_init 63 = .ok (.aload_n 0, 1) := by decide +kernel
theorem dX12_init_64 : decode cX12_init 64 = .ok (.bipush 16, 2) := by decide +kernel
theorem dX12_init_66 : decode cX12_init 66 = .ok (.newarray .int, 2) := by decide +kernel
theorem dX12_init_68 : decode cX12_init 68 = .ok (.putfield 31, 3) := by decide +kernel
theorem dX12_init_71 : decode cX12_init 71 = .ok (.aload_n 0, 1) := by decide +kernel
theorem dX12_init_72 : decode cX12_init 72 = .ok (.bipush 16, 2) := by decide +kernel
theorem dX12_init_74 : decode cX12_init 74 = .ok (.newarray .int, 2) := by decide +kernel
theorem dX12_init_76 : decode cX12_init 76 = .ok (.putfield 34, 3) := by decide +kernel
theorem dX12_init_79 : decode cX12_init 79 = .ok (.aload_n 0, 1) := by decide +kernel
theorem dX12_init_80 : decode cX12_init 80 = .ok (.bipush 64, 2) := by decide +kernel
theorem dX12_init_82 : decode cX12_init 82 = .ok (.newarray .int, 2) := by decide +kernel
theorem dX12_init_84 : decode cX12_init 84 = .ok (.putfield 37, 3) := by decide +kernel
theorem dX12_init_87 : decode cX12_init 87 = .ok (.aload_n 0, 1) := by decide +kernel
theorem dX12_init_88 : decode cX12_init 88 = .ok (.sipush 3136, 3) := by decide +kernel
theorem dX12_init_91 : decode cX12_init 91 = .ok (.newarray .int, 2) := by decide +kernel
theorem dX12_init_93 : decode cX12_init 93 = .ok (.putfield 40, 3) := by decide +kernel
theorem dX12_init_96 : decode cX12_init 96 = .ok (.aload_n 0, 1) := by decide +kernel
theorem dX12_init_97 : decode cX12_init 97 = .ok (.bipush 7, 2) := by decide +kernel
theorem dX12_init_99 : decode cX12_init 99 = .ok (.newarray .int, 2) := by decide +kernel
theorem dX12_init_101 : decode cX12_init 101 = .ok (.putfield 43, 3) := by decide +kernel
theorem dX12_init_104 : decode cX12_init 104 = .ok (.aload_n 0, 1) := by decide +kernel
theorem dX12_init_105 : decode cX12_init 105 = .ok (.sipush 400, 3) := by decide +kernel
theorem dX12_init_108 : decode cX12_init 108 = .ok (.newarray .int, 2) := by decide +kernel
theorem dX12_init_110 : decode cX12_init 110 = .ok (.putfield 46, 3) := by decide +kernel
theorem dX12_init_113 : decode cX12_init 113 = .ok (.aload_n 0, 1) := by decide +kernel
theorem dX12_init_114 : decode cX12_init 114 = .ok (.sipush 400, 3) := by decide +kernel
theorem dX12_init_117 : decode cX12_init 117 = .ok (.newarray .int, 2) := by decide +kernel
theorem dX12_init_119 : decode cX12_init 119 = .ok (.putfield 49, 3) := by decide +kernel
theorem dX12_init_122 : decode cX12_init 122 = .ok (.aload_n 0, 1) := by decide +kernel
theorem dX12_init_123 : decode cX12_init 123 = .ok (.sipush 400, 3) := by decide +kernel
theorem dX12_init_126 : decode cX12_init 126 = .ok (.newarray .int, 2) := by decide +kernel
theorem dX12_init_128 : decode cX12_init 128 = .ok (.putfield 52, 3) := by decide +kernel
theorem dX12_init_131 : decode cX12_init 131 = .ok (.aload_n 0, 1) := by decide +kernel
theorem dX12_init_132 : decode cX12_init 132 = .ok (.sipush 400, 3) := by decide +kernel
theorem dX12_init_135 : decode cX12_init 135 = .ok (.newarray .int, 2) := by decide +kernel
theorem dX12_init_137 : decode cX12_init 137 = .ok (.putfield 55, 3) := by decide +kernel
theorem dX12_init_140 : decode cX12_init 140 = .ok (.aload_n 0, 1) := by decide +kernel
theorem dX12_init_141 : decode cX12_init 141 = .ok (.bipush 80, 2) := by decide +kernel
theorem dX12_init_143 : decode cX12_init 143 = .ok (.newarray .int, 2) := by decide +kernel
theorem dX12_init_145 : decode cX12_init 145 = .ok (.putfield 58, 3) := by decide +kernel
theorem dX12_init_148 : decode cX12_init 148 = .ok (.aload_n 0, 1) := by decide +kernel
theorem dX12_init_149 : decode cX12_init 149 = .ok (.iconst 5, 1) := by decide +kernel
theorem dX12_init_150 : decode cX12_init 150 = .ok (.newarray .int, 2) := by decide +kernel
theorem dX12_init_152 : decode cX12_init 152 = .ok (.putfield 61, 3) := by decide +kernel
theorem dX12_init_155 : decode cX12_init 155 = .ok (.aload_n 0, 1) := by decide +kernel
theorem dX12_init_156 : decode cX12_init 156 = .ok (.sipush 200, 3) := by decide +kernel
theorem dX12_init_159 : decode cX12_init 159 = .ok (.newarray .int, 2) := by decide +kernel
theorem dX12_init_161 : decode cX12_init 161 = .ok (.putfield 64, 3) := by decide +kernel
theorem dX12_init_164 : decode cX12_init 164 = .ok (.aload_n 0, 1) := by decide +kernel
theorem dX12_init_165 : decode cX12_init 165 = .ok (.sipush 200, 3) := by decide +kernel
theorem dX12_init_168 : decode cX12_init 168 = .ok (.newarray .int, 2) := by decide +kernel
theorem dX12_init_170 : decode cX12_init 170 = .ok (.putfield 67, 3) := by decide +kernel
theorem dX12_init_173 : decode cX12_init 173 = .ok (.aload_n 0, 1) := by decide +kernel
theorem dX12_init_174 : decode cX12_init 174 = .ok (.iconst 5, 1) := by decide +kernel
theorem dX12_init_175 : decode cX12_init 175 = .ok (.newarray .int, 2) := by decide +kernel
theorem dX12_init_177 : decode cX12_init 177 = .ok (.putfield 70, 3) := by decide +kernel
theorem dX12_init_180 : decode cX12_init 180 = .ok (.aload_n 0, 1) := by decide +kernel
theorem dX12_init_181 : decode cX12_init 181 = .ok (.bipush 35, 2) := by decide +kernel
theorem dX12_init_183 : decode cX12_init 183 = .ok (.newarray .int, 2) := by decide +kernel
theorem dX12_init_185 : decode cX12_init 185 = .ok (.putfield 73, 3) := by decide +kernel
theorem dX12_init_188 : decode cX12_init 188 = .ok (.aload_n 0, 1) := by decide +kernel
theorem dX12_init_189 : decode cX12_init 189 = .ok (.bipush 35, 2) := by decide +kernel
theorem dX12_init_191 : decode cX12_init 191 = .ok (.newarray .int, 2) := by decide +kernel
theorem dX12_init_193 : decode cX12_init 193 = .ok (.putfield 76, 3) := by decide +kernel
theorem dX12_init_196 : decode cX12_init 196 = .ok (.aload_n 0, 1) := by decide +kernel
theorem dX12_init_197 : decode cX12_init 197 = .ok (.iconst 5, 1) := by decide +kernel
theorem dX12_init_198 : decode cX12_init 198 = .ok (.newarray .int, 2) := by decide +kernel
theorem dX12_init_200 : decode cX12_init 200 = .ok (.putfield 79, 3) := by decide +kernel
theorem dX12_init_203 : decode cX12_init 203 = .ok (.aload_n 0, 1) := by decide +kernel
theorem dX12_init_204 : decode cX12_init 204 = .ok (.bipush 49, 2) := by decide +kernel
theorem dX12_init_206 : decode cX12_init 206 = .ok (.newarray .int, 2) := by decide +kernel
theorem dX12_init_208 : decode cX12_init 208 = .ok (.putfield 82, 3) := by decide +kernel
theorem dX12_init_211 : decode cX12_init 211 = .ok (.aload_n 0, 1) := by decide +kernel
theorem dX12_init_212 : decode cX12_init 212 = .ok (.bipush 7, 2) := by decide +kernel
theorem dX12_init_214 : decode cX12_init 214 = .ok (.newarray .int, 2) := by decide +kernel
theorem dX12_init_216 : decode cX12_init 216 = .ok (.putfield 85, 3) := by decide +kernel
theorem dX12_init_219 : decode cX12_init 219 = .ok (.aload_n 0, 1) := by decide +kernel
theorem dX12_init_220 : decode cX12_init 220 = .ok (.bipush 7, 2) := by decide +kernel
theorem dX12_init_222 : decode cX12_init 222 = .ok (.newarray .int, 2) := by decide +kernel
theorem dX12_init_224 : decode cX12_init 224 = .ok (.putfield 88, 3) := by decide +kernel
theorem dX12_init_227 : decode cX12_init 227 = .ok (.aload_n 0, 1) := by decide +kernel
theorem dX12_init_228 : decode cX12_init 228 = .ok (.bipush 7, 2) := by decide +kernel
theorem dX12_init_230 : decode cX12_init 230 = .ok (.newarray .int, 2) := by decide +kernel
theorem dX12_init_232 : decode cX12_init 232 = .ok (.putfield 91, 3) := by decide +kernel
theorem dX12_init_235 : decode cX12_init 235 = .ok (.aload_n 0, 1) := by decide +kernel
theorem dX12_init_236 : decode cX12_init 236 = .ok (.bipush 7, 2) := by decide +kernel
theorem dX12_init_238 : decode cX12_init 238 = .ok (.newarray .int, 2) := by decide +kernel
theorem dX12_init_240 : decode cX12_init 240 = .ok (.putfield 94, 3) := by decide +kernel
theorem dX12_init_243 : decode cX12_init 243 = .ok (.aload_n 0, 1) := by decide +kernel
theorem dX12_init_244 : decode cX12_init 244 = .ok (.bipush 7, 2) := by decide +kernel
theorem dX12_init_246 : decode cX12_init 246 = .ok (.newarray .int, 2) := by decide +kernel
theorem dX12_init_248 : decode cX12_init 248 = .ok (.putfield 97, 3) := by decide +kernel
theorem dX12_init_251 : decode cX12_init 251 = .ok (.aload_n 0, 1) := by decide +kernel
theorem dX12_init_252 : decode cX12_init 252 = .ok (.bipush 7, 2) := by decide +kernel
theorem dX12_init_254 : decode cX12_init 254 = .ok (.newarray .int, 2) := by decide +kernel
theorem dX12_init_256 : decode cX12_init 256 = .ok (.putfield 100, 3) := by decide +kernel
theorem dX12_init_259 : decode cX12_init 259 = .ok (.aload_n 0, 1) := by decide +kernel
theorem dX12_init_260 : decode cX12_init 260 = .ok (.sipush 196, 3) := by decide +kernel
theorem dX12_init_263 : decode cX12_init 263 = .ok (.newarray .int, 2) := by decide +kernel
theorem dX12_init_265 : decode cX12_init 265 = .ok (.putfield 103, 3) := by decide +kernel
theorem dX12_init_268 : decode cX12_init 268 = .ok (.aload_n 0, 1) := by decide +kernel
theorem dX12_init_269 : decode cX12_init 269 = .ok (.sipush 196, 3) := by decide +kernel
theorem dX12_init_272 : decode cX12_init 272 = .ok (.newarray .int, 2) := by decide +kernel
theorem dX12_init_274 : decode cX12_init 274 = .ok (.putfield 106, 3) := by decide +kernel
theorem dX12_init_277 : decode cX12_init 277 = .ok (.aload_n 0, 1) := by decide +kernel
theorem dX12_init_278 : decode cX12_init 278 = .ok (.sipush 300, 3) := by decide +kernel
theorem dX12_init_281 : decode cX12_init 281 = .ok (.newarray .int, 2) := by decide +kernel
theorem dX12_init_283 : decode cX12_init 283 = .ok (.putfield 109, 3) := by decide +kernel
theorem dX12_init_286 : decode cX12_init 286 = .ok (.aload_n 0, 1) := by decide +kernel
theorem dX12_init_287 : decode cX12_init 287 = .ok (.bipush 7, 2) := by decide +kernel
theorem dX12_init_289 : decode cX12_init 289 = .ok (.newarray .int, 2) := by decide +kernel
theorem dX12_init_291 : decode cX12_init 291 = .ok (.putfield 112, 3) := by decide +kernel
theorem dX12_init_294 : decode cX12_init 294 = .ok (.return_, 1) := by decide +kernel
theorem lf_12 (a : Nat) (hk : kt a = 12 + 3) : ∀ k, (k ≠ 1 ∧ k ≠ 3 ∧ k ≠ 6 ∧ k ≠ 7 ∧ k ≠ 8 ∧ k ≠ 9 ∧ k ≠ 10 ∧ k ≠ 11 ∧ k ≠ 12 ∧ k ≠ 13 ∧ k ≠ 14 ∧ k ≠ 18 ∧ k ≠ 19 ∧ k ≠ 20 ∧ k ≠ 21 ∧ k ≠ 22 ∧ k ≠ 23 ∧ k ≠ 24 ∧ k ≠ 25 ∧ k ≠ 26 ∧ k ≠ 27 ∧ k ≠ 28 ∧ k ≠ 29 ∧ k ≠ 30 ∧ k ≠ 41 ∧ k ≠ 42 ∧ k ≠ 44 ∧ k ≠ 45 ∧ k ≠ 46 ∧ k ≠ 48 ∧ k ≠ 49 ∧ k ≠ 50 ∧ k ≠ 51 ∧ k ≠ 52 ∧ k ≠ 54) → isR a k = true → hFin a k = -1 := by
  intro k hne h
  unfold isR at h
  unfold hFin
  rw [zsk_obj hk] at h ⊢
  match k, hne, h with
  | 0, _, h => exact Bool.noConfusion h
  | 1, hne, _ => exact absurd hne (by omega)
  | 2, _, h => exact Bool.noConfusion h
  | 3, hne, _ => exact absurd hne (by omega)
  | 4, _, h => exact Bool.noConfusion h
  | 5, _, h => exact Bool.noConfusion h
  | 6, hne, _ => exact absurd hne (by omega)
  | 7, hne, _ => exact absurd hne (by omega)
  | 8, hne, _ => exact absurd hne (by omega)
  | 9, hne, _ => exact absurd hne (by omega)
  | 10, hne, _ => exact absurd hne (by omega)
  | 11, hne, _ => exact absurd hne (by omega)
  | 12, hne, _ => exact absurd hne (by omega)
  | 13, hne, _ => exact absurd hne (by omega)
  | 14, hne, _ => exact absurd hne (by omega)
  | 15, _, h => exact Bool.noConfusion h
  | 16, _, h => exact Bool.noConfusion h
  | 17, _, h => exact Bool.noConfusion h
  | 18, hne, _ => exact absurd hne (by omega)
  | 19, hne, _ => exact absurd hne (by omega)
  | 20, hne, _ => exact absurd hne (by omega)
  | 21, hne, _ => exact absurd hne (by omega)
  | 22, hne, _ => exact absurd hne (by omega)
  | 23, hne, _ => exact absurd hne (by omega)
  | 24, hne, _ => exact absurd hne (by omega)
  | 25, hne, _ => exact absurd hne (by omega)
  | 26, hne, _ => exact absurd hne (by omega)
  | 27, hne, _ => exact absurd hne (by omega)
  | 28, hne, _ => exact absurd hne (by omega)
  | 29, hne, _ => exact absurd hne (by omega)
  | 30, hne, _ => exact absurd hne (by omega)
  | 31, _, h => exact Bool.noConfusion h
  | 32, _, h => exact Bool.noConfusion h
  | 33, _, h => exact Bool.noConfusion h
  | 34, _, h => exact Bool.noConfusion h
  | 35, _, h => exact Bool.noConfusion h
  | 36, _, h => exact Bool.noConfusion h
  | 37, _, h => exact Bool.noConfusion h
  | 38, _, h => exact Bool.noConfusion h
  | 39, _, h => exact Bool.noConfusion h
  | 40, _, h => exact Bool.noConfusion h
  | 41, hne, _ => exact absurd hne (by omega)
  | 42, hne, _ => exact absurd hne (by omega)
  | 43, _, h => exact Bool.noConfusion h
  | 44, hne, _ => exact absurd hne (by omega)
  | 45, hne, _ => exact absurd hne (by omega)
  | 46, hne, _ => exact absurd hne (by omega)
  | 47, _, h => exact Bool.noConfusion h
  | 48, hne, _ => exact absurd hne (by omega)
  | 49, hne, _ => exact absurd hne (by omega)
  | 50, hne, _ => exact absurd hne (by omega)
  | 51, hne, _ => exact absurd hne (by omega)
  | 52, hne, _ => exact absurd hne (by omega)
  | 53, _, h => exact Bool.noConfusion h
  | 54, hne, _ => exact absurd hne (by omega)
  | k + 55, _, h => exact Bool.noConfusion h
set_option maxHeartbeats 8000000 in
set_option maxRecDepth 100000 in
theorem kX12_init (l : Launch) (g : zG) (B : Nat) (u : Nat → Nat → Bool) : CTn l g B yX12_init cX12_init 1 1 35 8840 [.ref (B + 181)] (fun c k => if c = 181 then isR c k else u c k) (181 + 1) (fun c k => if c < 181 then u c k else false) := by
  refine n_enter (by decide) rfl rfl (Nat.le_of_ble_eq_true rfl) ?_
  intro p e s m args below meth c ls cn hn hl
  have hl : lv_has ls 1 [(0, .ref (B + 181))] := hl
  refine lv_aload_n cn.1 cn.2.1 dX12_init_0 rfl (lv_at hl 0 rfl) ?_
  refine W.objInit cn.1 cn.2.1 cn.2.2.2.1 (cn.2.2.2.2.1 _ mo_X12) (cn.2.2.2.2.1 _ zw_oi.1) (cn.2.2.2.2.1 _ zw_oi.2) rfl (hl.1.trans cn.2.2.1.symm) rfl dX12_init_1 (by decide) (Nat.le_of_ble_eq_true rfl) ?_
  refine lv_aload_n cn.1 cn.2.1 dX12_init_4 rfl (lv_at hl 0 rfl) ?_
  refine lv_sipush (v := ii 400) cn.1 cn.2.1 dX12_init_5 (by decide) ?_
  refine n_newa cn hn (by decide) (show kt 182 = 0 from by decide) (by decide) (by decide) (by decide) dX12_init_8 (fun H hn => ?_)
  refine n_put cn hn tyX12 tyX12_ok nmX12 12 1 182 rfl zin_12 (by decide) (by decide) (show kt 181 = 12 + 3 from by decide) (by omega) (Or.inl rfl) (by decide) rfl (Or.inr ⟨_, rfl⟩) fl_X12_7 dX12_init_10 (fun H locs hn => ?_)
  refine lv_aload_n cn.1 cn.2.1 dX12_init_13 rfl (lv_at hl 0 rfl) ?_
  refine lv_sipush (v := ii 210) cn.1 cn.2.1 dX12_init_14 (by decide) ?_
  refine n_newa cn hn (by decide) (show kt 183 = 0 from by decide) (by decide) (by decide) (by decide) dX12_init_17 (fun H hn => ?_)
  refine n_put cn hn tyX12 tyX12_ok nmX12 12 3 183 rfl zin_12 (by decide) (by decide) (show kt 181 = 12 + 3 from by decide) (by omega) (Or.inl rfl) (by decide) rfl (Or.inr ⟨_, rfl⟩) fl_X12_13 dX12_init_19 (fun H locs hn => ?_)
  refine lv_aload_n cn.1 cn.2.1 dX12_init_22 rfl (lv_at hl 0 rfl) ?_
  refine lv_bipush (v := ii 10) cn.1 cn.2.1 dX12_init_23 (by decide) ?_
  refine n_newa cn hn (by decide) (show kt 184 = 0 from by decide) (by decide) (by decide) (by decide) dX12_init_25 (fun H hn => ?_)
  refine n_put cn hn tyX12 tyX12_ok nmX12 12 6 184 rfl zin_12 (by decide) (by decide) (show kt 181 = 12 + 3 from by decide) (by omega) (Or.inl rfl) (by decide) rfl (Or.inr ⟨_, rfl⟩) fl_X12_16 dX12_init_27 (fun H locs hn => ?_)
  refine lv_aload_n cn.1 cn.2.1 dX12_init_30 rfl (lv_at hl 0 rfl) ?_
  refine lv_bipush (v := ii 10) cn.1 cn.2.1 dX12_init_31 (by decide) ?_
  refine n_newa cn hn (by decide) (show kt 185 = 0 from by decide) (by decide) (by decide) (by decide) dX12_init_33 (fun H hn => ?_)
  refine n_put cn hn tyX12 tyX12_ok nmX12 12 7 185 rfl zin_12 (by decide) (by decide) (show kt 181 = 12 + 3 from by decide) (by omega) (Or.inl rfl) (by decide) rfl (Or.inr ⟨_, rfl⟩) fl_X12_19 dX12_init_35 (fun H locs hn => ?_)
  refine lv_aload_n cn.1 cn.2.1 dX12_init_38 rfl (lv_at hl 0 rfl) ?_
  refine lv_bipush (v := ii 40) cn.1 cn.2.1 dX12_init_39 (by decide) ?_
  refine n_newa cn hn (by decide) (show kt 186 = 0 from by decide) (by decide) (by decide) (by decide) dX12_init_41 (fun H hn => ?_)
  refine n_put cn hn tyX12 tyX12_ok nmX12 12 8 186 rfl zin_12 (by decide) (by decide) (show kt 181 = 12 + 3 from by decide) (by omega) (Or.inl rfl) (by decide) rfl (Or.inr ⟨_, rfl⟩) fl_X12_22 dX12_init_43 (fun H locs hn => ?_)
  refine lv_aload_n cn.1 cn.2.1 dX12_init_46 rfl (lv_at hl 0 rfl) ?_
  refine lv_sipush (v := ii 1960) cn.1 cn.2.1 dX12_init_47 (by decide) ?_
  refine n_newa cn hn (by decide) (show kt 187 = 0 from by decide) (by decide) (by decide) (by decide) dX12_init_50 (fun H hn => ?_)
  refine n_put cn hn tyX12 tyX12_ok nmX12 12 9 187 rfl zin_12 (by decide) (by decide) (show kt 181 = 12 + 3 from by decide) (by omega) (Or.inl rfl) (by decide) rfl (Or.inr ⟨_, rfl⟩) fl_X12_25 dX12_init_52 (fun H locs hn => ?_)
  refine lv_aload_n cn.1 cn.2.1 dX12_init_55 rfl (lv_at hl 0 rfl) ?_
  refine lv_bipush (v := ii 16) cn.1 cn.2.1 dX12_init_56 (by decide) ?_
  refine n_newa cn hn (by decide) (show kt 188 = 0 from by decide) (by decide) (by decide) (by decide) dX12_init_58 (fun H hn => ?_)
  refine n_put cn hn tyX12 tyX12_ok nmX12 12 10 188 rfl zin_12 (by decide) (by decide) (show kt 181 = 12 + 3 from by decide) (by omega) (Or.inl rfl) (by decide) rfl (Or.inr ⟨_, rfl⟩) fl_X12_28 dX12_init_60 (fun H locs hn => ?_)
  refine lv_aload_n cn.1 cn.2.1 dX12_init_63 rfl (lv_at hl 0 rfl) ?_
  refine lv_bipush (v := ii 16) cn.1 cn.2.1 dX12_init_64 (by decide) ?_
  refine n_newa cn hn (by decide) (show kt 189 = 0 from by decide) (by decide) (by decide) (by decide) dX12_init_66 (fun H hn => ?_)
  refine n_put cn hn tyX12 tyX12_ok nmX12 12 11 189 rfl zin_12 (by decide) (by decide) (show kt 181 = 12 + 3 from by decide) (by omega) (Or.inl rfl) (by decide) rfl (Or.inr ⟨_, rfl⟩) fl_X12_31 dX12_init_68 (fun H locs hn => ?_)
  refine lv_aload_n cn.1 cn.2.1 dX12_init_71 rfl (lv_at hl 0 rfl) ?_
  refine lv_bipush (v := ii 16) cn.1 cn.2.1 dX12_init_72 (by decide) ?_
  refine n_newa cn hn (by decide) (show kt 190 = 0 from by decide) (by decide) (by decide) (by decide) dX12_init_74 (fun H hn => ?_)
  refine n_put cn hn tyX12 tyX12_ok nmX12 12 12 190 rfl zin_12 (by decide) (by decide) (show kt 181 = 12 + 3 from by decide) (by omega) (Or.inl rfl) (by decide) rfl (Or.inr ⟨_, rfl⟩) fl_X12_34 dX12_init_76 (fun H locs hn => ?_)
  refine lv_aload_n cn.1 cn.2.1 dX12_init_79 rfl (lv_at hl 0 rfl) ?_
  refine lv_bipush (v := ii 64) cn.1 cn.2.1 dX12_init_80 (by decide) ?_
  refine n_newa cn hn (by decide) (show kt 191 = 0 from by decide) (by decide) (by decide) (by decide) dX12_init_82 (fun H hn => ?_)
  refine n_put cn hn tyX12 tyX12_ok nmX12 12 13 191 rfl zin_12 (by decide) (by decide) (show kt 181 = 12 + 3 from by decide) (by omega) (Or.inl rfl) (by decide) rfl (Or.inr ⟨_, rfl⟩) fl_X12_37 dX12_init_84 (fun H locs hn => ?_)
  refine lv_aload_n cn.1 cn.2.1 dX12_init_87 rfl (lv_at hl 0 rfl) ?_
  refine lv_sipush (v := ii 3136) cn.1 cn.2.1 dX12_init_88 (by decide) ?_
  refine n_newa cn hn (by decide) (show kt 192 = 0 from by decide) (by decide) (by decide) (by decide) dX12_init_91 (fun H hn => ?_)
  refine n_put cn hn tyX12 tyX12_ok nmX12 12 14 192 rfl zin_12 (by decide) (by decide) (show kt 181 = 12 + 3 from by decide) (by omega) (Or.inl rfl) (by decide) rfl (Or.inr ⟨_, rfl⟩) fl_X12_40 dX12_init_93 (fun H locs hn => ?_)
  refine lv_aload_n cn.1 cn.2.1 dX12_init_96 rfl (lv_at hl 0 rfl) ?_
  refine lv_bipush (v := ii 7) cn.1 cn.2.1 dX12_init_97 (by decide) ?_
  refine n_newa cn hn (by decide) (show kt 193 = 0 from by decide) (by decide) (by decide) (by decide) dX12_init_99 (fun H hn => ?_)
  refine n_put cn hn tyX12 tyX12_ok nmX12 12 18 193 rfl zin_12 (by decide) (by decide) (show kt 181 = 12 + 3 from by decide) (by omega) (Or.inl rfl) (by decide) rfl (Or.inr ⟨_, rfl⟩) fl_X12_43 dX12_init_101 (fun H locs hn => ?_)
  refine lv_aload_n cn.1 cn.2.1 dX12_init_104 rfl (lv_at hl 0 rfl) ?_
  refine lv_sipush (v := ii 400) cn.1 cn.2.1 dX12_init_105 (by decide) ?_
  refine n_newa cn hn (by decide) (show kt 194 = 0 from by decide) (by decide) (by decide) (by decide) dX12_init_108 (fun H hn => ?_)
  refine n_put cn hn tyX12 tyX12_ok nmX12 12 19 194 rfl zin_12 (by decide) (by decide) (show kt 181 = 12 + 3 from by decide) (by omega) (Or.inl rfl) (by decide) rfl (Or.inr ⟨_, rfl⟩) fl_X12_46 dX12_init_110 (fun H locs hn => ?_)
  refine lv_aload_n cn.1 cn.2.1 dX12_init_113 rfl (lv_at hl 0 rfl) ?_
  refine lv_sipush (v := ii 400) cn.1 cn.2.1 dX12_init_114 (by decide) ?_
  refine n_newa cn hn (by decide) (show kt 195 = 0 from by decide) (by decide) (by decide) (by decide) dX12_init_117 (fun H hn => ?_)
  refine n_put cn hn tyX12 tyX12_ok nmX12 12 20 195 rfl zin_12 (by decide) (by decide) (show kt 181 = 12 + 3 from by decide) (by omega) (Or.inl rfl) (by decide) rfl (Or.inr ⟨_, rfl⟩) fl_X12_49 dX12_init_119 (fun H locs hn => ?_)
  refine lv_aload_n cn.1 cn.2.1 dX12_init_122 rfl (lv_at hl 0 rfl) ?_
  refine lv_sipush (v := ii 400) cn.1 cn.2.1 dX12_init_123 (by decide) ?_
  refine n_newa cn hn (by decide) (show kt 196 = 0 from by decide) (by decide) (by decide) (by decide) dX12_init_126 (fun H hn => ?_)
  refine n_put cn hn tyX12 tyX12_ok nmX12 12 21 196 rfl zin_12 (by decide) (by decide) (show kt 181 = 12 + 3 from by decide) (by omega) (Or.inl rfl) (by decide) rfl (Or.inr ⟨_, rfl⟩) fl_X12_52 dX12_init_128 (fun H locs hn => ?_)
  refine lv_aload_n cn.1 cn.2.1 dX12_init_131 rfl (lv_at hl 0 rfl) ?_
  refine lv_sipush (v := ii 400) cn.1 cn.2.1 dX12_init_132 (by decide) ?_
  refine n_newa cn hn (by decide) (show kt 197 = 0 from by decide) (by decide) (by decide) (by decide) dX12_init_135 (fun H hn => ?_)
  refine n_put cn hn tyX12 tyX12_ok nmX12 12 22 197 rfl zin_12 (by decide) (by decide) (show kt 181 = 12 + 3 from by decide) (by omega) (Or.inl rfl) (by decide) rfl (Or.inr ⟨_, rfl⟩) fl_X12_55 dX12_init_137 (fun H locs hn => ?_)
  refine lv_aload_n cn.1 cn.2.1 dX12_init_140 rfl (lv_at hl 0 rfl) ?_
  refine lv_bipush (v := ii 80) cn.1 cn.2.1 dX12_init_141 (by decide) ?_
  refine n_newa cn hn (by decide) (show kt 198 = 0 from by decide) (by decide) (by decide) (by decide) dX12_init_143 (fun H hn => ?_)
  refine n_put cn hn tyX12 tyX12_ok nmX12 12 23 198 rfl zin_12 (by decide) (by decide) (show kt 181 = 12 + 3 from by decide) (by omega) (Or.inl rfl) (by decide) rfl (Or.inr ⟨_, rfl⟩) fl_X12_58 dX12_init_145 (fun H locs hn => ?_)
  refine lv_aload_n cn.1 cn.2.1 dX12_init_148 rfl (lv_at hl 0 rfl) ?_
  refine lv_iconst (v := ii 5) cn.1 cn.2.1 dX12_init_149 (by decide) ?_
  refine n_newa cn hn (by decide) (show kt 199 = 0 from by decide) (by decide) (by decide) (by decide) dX12_init_150 (fun H hn => ?_)
  refine n_put cn hn tyX12 tyX12_ok nmX12 12 24 199 rfl zin_12 (by decide) (by decide) (show kt 181 = 12 + 3 from by decide) (by omega) (Or.inl rfl) (by decide) rfl (Or.inr ⟨_, rfl⟩) fl_X12_61 dX12_init_152 (fun H locs hn => ?_)
  refine lv_aload_n cn.1 cn.2.1 dX12_init_155 rfl (lv_at hl 0 rfl) ?_
  refine lv_sipush (v := ii 200) cn.1 cn.2.1 dX12_init_156 (by decide) ?_
  refine n_newa cn hn (by decide) (show kt 200 = 0 from by decide) (by decide) (by decide) (by decide) dX12_init_159 (fun H hn => ?_)
  refine n_put cn hn tyX12 tyX12_ok nmX12 12 25 200 rfl zin_12 (by decide) (by decide) (show kt 181 = 12 + 3 from by decide) (by omega) (Or.inl rfl) (by decide) rfl (Or.inr ⟨_, rfl⟩) fl_X12_64 dX12_init_161 (fun H locs hn => ?_)
  refine lv_aload_n cn.1 cn.2.1 dX12_init_164 rfl (lv_at hl 0 rfl) ?_
  refine lv_sipush (v := ii 200) cn.1 cn.2.1 dX12_init_165 (by decide) ?_
  refine n_newa cn hn (by decide) (show kt 201 = 0 from by decide) (by decide) (by decide) (by decide) dX12_init_168 (fun H hn => ?_)
  refine n_put cn hn tyX12 tyX12_ok nmX12 12 26 201 rfl zin_12 (by decide) (by decide) (show kt 181 = 12 + 3 from by decide) (by omega) (Or.inl rfl) (by decide) rfl (Or.inr ⟨_, rfl⟩) fl_X12_67 dX12_init_170 (fun H locs hn => ?_)
  refine lv_aload_n cn.1 cn.2.1 dX12_init_173 rfl (lv_at hl 0 rfl) ?_
  refine lv_iconst (v := ii 5) cn.1 cn.2.1 dX12_init_174 (by decide) ?_
  refine n_newa cn hn (by decide) (show kt 202 = 0 from by decide) (by decide) (by decide) (by decide) dX12_init_175 (fun H hn => ?_)
  refine n_put cn hn tyX12 tyX12_ok nmX12 12 27 202 rfl zin_12 (by decide) (by decide) (show kt 181 = 12 + 3 from by decide) (by omega) (Or.inl rfl) (by decide) rfl (Or.inr ⟨_, rfl⟩) fl_X12_70 dX12_init_177 (fun H locs hn => ?_)
  refine lv_aload_n cn.1 cn.2.1 dX12_init_180 rfl (lv_at hl 0 rfl) ?_
  refine lv_bipush (v := ii 35) cn.1 cn.2.1 dX12_init_181 (by decide) ?_
  refine n_newa cn hn (by decide) (show kt 203 = 0 from by decide) (by decide) (by decide) (by decide) dX12_init_183 (fun H hn => ?_)
  refine n_put cn hn tyX12 tyX12_ok nmX12 12 28 203 rfl zin_12 (by decide) (by decide) (show kt 181 = 12 + 3 from by decide) (by omega) (Or.inl rfl) (by decide) rfl (Or.inr ⟨_, rfl⟩) fl_X12_73 dX12_init_185 (fun H locs hn => ?_)
  refine lv_aload_n cn.1 cn.2.1 dX12_init_188 rfl (lv_at hl 0 rfl) ?_
  refine lv_bipush (v := ii 35) cn.1 cn.2.1 dX12_init_189 (by decide) ?_
  refine n_newa cn hn (by decide) (show kt 204 = 0 from by decide) (by decide) (by decide) (by decide) dX12_init_191 (fun H hn => ?_)
  refine n_put cn hn tyX12 tyX12_ok nmX12 12 29 204 rfl zin_12 (by decide) (by decide) (show kt 181 = 12 + 3 from by decide) (by omega) (Or.inl rfl) (by decide) rfl (Or.inr ⟨_, rfl⟩) fl_X12_76 dX12_init_193 (fun H locs hn => ?_)
  refine lv_aload_n cn.1 cn.2.1 dX12_init_196 rfl (lv_at hl 0 rfl) ?_
  refine lv_iconst (v := ii 5) cn.1 cn.2.1 dX12_init_197 (by decide) ?_
  refine n_newa cn hn (by decide) (show kt 205 = 0 from by decide) (by decide) (by decide) (by decide) dX12_init_198 (fun H hn => ?_)
  refine n_put cn hn tyX12 tyX12_ok nmX12 12 30 205 rfl zin_12 (by decide) (by decide) (show kt 181 = 12 + 3 from by decide) (by omega) (Or.inl rfl) (by decide) rfl (Or.inr ⟨_, rfl⟩) fl_X12_79 dX12_init_200 (fun H locs hn => ?_)
  refine lv_aload_n cn.1 cn.2.1 dX12_init_203 rfl (lv_at hl 0 rfl) ?_
  refine lv_bipush (v := ii 49) cn.1 cn.2.1 dX12_init_204 (by decide) ?_
  refine n_newa cn hn (by decide) (show kt 206 = 0 from by decide) (by decide) (by decide) (by decide) dX12_init_206 (fun H hn => ?_)
  refine n_put cn hn tyX12 tyX12_ok nmX12 12 41 206 rfl zin_12 (by decide) (by decide) (show kt 181 = 12 + 3 from by decide) (by omega) (Or.inl rfl) (by decide) rfl (Or.inr ⟨_, rfl⟩) fl_X12_82 dX12_init_208 (fun H locs hn => ?_)
  refine lv_aload_n cn.1 cn.2.1 dX12_init_211 rfl (lv_at hl 0 rfl) ?_
  refine lv_bipush (v := ii 7) cn.1 cn.2.1 dX12_init_212 (by decide) ?_
  refine n_newa cn hn (by decide) (show kt 207 = 0 from by decide) (by decide) (by decide) (by decide) dX12_init_214 (fun H hn => ?_)
  refine n_put cn hn tyX12 tyX12_ok nmX12 12 42 207 rfl zin_12 (by decide) (by decide) (show kt 181 = 12 + 3 from by decide) (by omega) (Or.inl rfl) (by decide) rfl (Or.inr ⟨_, rfl⟩) fl_X12_85 dX12_init_216 (fun H locs hn => ?_)
  refine lv_aload_n cn.1 cn.2.1 dX12_init_219 rfl (lv_at hl 0 rfl) ?_
  refine lv_bipush (v := ii 7) cn.1 cn.2.1 dX12_init_220 (by decide) ?_
  refine n_newa cn hn (by decide) (show kt 208 = 0 from by decide) (by decide) (by decide) (by decide) dX12_init_222 (fun H hn => ?_)
  refine n_put cn hn tyX12 tyX12_ok nmX12 12 44 208 rfl zin_12 (by decide) (by decide) (show kt 181 = 12 + 3 from by decide) (by omega) (Or.inl rfl) (by decide) rfl (Or.inr ⟨_, rfl⟩) fl_X12_88 dX12_init_224 (fun H locs hn => ?_)
  refine lv_aload_n cn.1 cn.2.1 dX12_init_227 rfl (lv_at hl 0 rfl) ?_
  refine lv_bipush (v := ii 7) cn.1 cn.2.1 dX12_init_228 (by decide) ?_
  refine n_newa cn hn (by decide) (show kt 209 = 0 from by decide) (by decide) (by decide) (by decide) dX12_init_230 (fun H hn => ?_)
  refine n_put cn hn tyX12 tyX12_ok nmX12 12 45 209 rfl zin_12 (by decide) (by decide) (show kt 181 = 12 + 3 from by decide) (by omega) (Or.inl rfl) (by decide) rfl (Or.inr ⟨_, rfl⟩) fl_X12_91 dX12_init_232 (fun H locs hn => ?_)
  refine lv_aload_n cn.1 cn.2.1 dX12_init_235 rfl (lv_at hl 0 rfl) ?_
  refine lv_bipush (v := ii 7) cn.1 cn.2.1 dX12_init_236 (by decide) ?_
  refine n_newa cn hn (by decide) (show kt 210 = 0 from by decide) (by decide) (by decide) (by decide) dX12_init_238 (fun H hn => ?_)
  refine n_put cn hn tyX12 tyX12_ok nmX12 12 46 210 rfl zin_12 (by decide) (by decide) (show kt 181 = 12 + 3 from by decide) (by omega) (Or.inl rfl) (by decide) rfl (Or.inr ⟨_, rfl⟩) fl_X12_94 dX12_init_240 (fun H locs hn => ?_)
  refine lv_aload_n cn.1 cn.2.1 dX12_init_243 rfl (lv_at hl 0 rfl) ?_
  refine lv_bipush (v := ii 7) cn.1 cn.2.1 dX12_init_244 (by decide) ?_
  refine n_newa cn hn (by decide) (show kt 211 = 0 from by decide) (by decide) (by decide) (by decide) dX12_init_246 (fun H hn => ?_)
  refine n_put cn hn tyX12 tyX12_ok nmX12 12 48 211 rfl zin_12 (by decide) (by decide) (show kt 181 = 12 + 3 from by decide) (by omega) (Or.inl rfl) (by decide) rfl (Or.inr ⟨_, rfl⟩) fl_X12_97 dX12_init_248 (fun H locs hn => ?_)
  refine lv_aload_n cn.1 cn.2.1 dX12_init_251 rfl (lv_at hl 0 rfl) ?_
  refine lv_bipush (v := ii 7) cn.1 cn.2.1 dX12_init_252 (by decide) ?_
  refine n_newa cn hn (by decide) (show kt 212 = 0 from by decide) (by decide) (by decide) (by decide) dX12_init_254 (fun H hn => ?_)
  refine n_put cn hn tyX12 tyX12_ok nmX12 12 49 212 rfl zin_12 (by decide) (by decide) (show kt 181 = 12 + 3 from by decide) (by omega) (Or.inl rfl) (by decide) rfl (Or.inr ⟨_, rfl⟩) fl_X12_100 dX12_init_256 (fun H locs hn => ?_)
  refine lv_aload_n cn.1 cn.2.1 dX12_init_259 rfl (lv_at hl 0 rfl) ?_
  refine lv_sipush (v := ii 196) cn.1 cn.2.1 dX12_init_260 (by decide) ?_
  refine n_newa cn hn (by decide) (show kt 213 = 0 from by decide) (by decide) (by decide) (by decide) dX12_init_263 (fun H hn => ?_)
  refine n_put cn hn tyX12 tyX12_ok nmX12 12 50 213 rfl zin_12 (by decide) (by decide) (show kt 181 = 12 + 3 from by decide) (by omega) (Or.inl rfl) (by decide) rfl (Or.inr ⟨_, rfl⟩) fl_X12_103 dX12_init_265 (fun H locs hn => ?_)
  refine lv_aload_n cn.1 cn.2.1 dX12_init_268 rfl (lv_at hl 0 rfl) ?_
  refine lv_sipush (v := ii 196) cn.1 cn.2.1 dX12_init_269 (by decide) ?_
  refine n_newa cn hn (by decide) (show kt 214 = 0 from by decide) (by decide) (by decide) (by decide) dX12_init_272 (fun H hn => ?_)
  refine n_put cn hn tyX12 tyX12_ok nmX12 12 51 214 rfl zin_12 (by decide) (by decide) (show kt 181 = 12 + 3 from by decide) (by omega) (Or.inl rfl) (by decide) rfl (Or.inr ⟨_, rfl⟩) fl_X12_106 dX12_init_274 (fun H locs hn => ?_)
  refine lv_aload_n cn.1 cn.2.1 dX12_init_277 rfl (lv_at hl 0 rfl) ?_
  refine lv_sipush (v := ii 300) cn.1 cn.2.1 dX12_init_278 (by decide) ?_
  refine n_newa cn hn (by decide) (show kt 215 = 0 from by decide) (by decide) (by decide) (by decide) dX12_init_281 (fun H hn => ?_)
  refine n_put cn hn tyX12 tyX12_ok nmX12 12 52 215 rfl zin_12 (by decide) (by decide) (show kt 181 = 12 + 3 from by decide) (by omega) (Or.inl rfl) (by decide) rfl (Or.inr ⟨_, rfl⟩) fl_X12_109 dX12_init_283 (fun H locs hn => ?_)
  refine lv_aload_n cn.1 cn.2.1 dX12_init_286 rfl (lv_at hl 0 rfl) ?_
  refine lv_bipush (v := ii 7) cn.1 cn.2.1 dX12_init_287 (by decide) ?_
  refine n_newa cn hn (by decide) (show kt 216 = 0 from by decide) (by decide) (by decide) (by decide) dX12_init_289 (fun H hn => ?_)
  refine n_put cn hn tyX12 tyX12_ok nmX12 12 54 216 rfl zin_12 (by decide) (by decide) (show kt 181 = 12 + 3 from by decide) (by omega) (Or.inl rfl) (by decide) rfl (Or.inr ⟨_, rfl⟩) fl_X12_112 dX12_init_291 (fun H locs hn => ?_)
  refine W.widen (k := 35) (n := 8840) (by omega) (by decide) ?_
  refine n_vret (n0 := 181 + 1) cn hn rfl (he_gen ?_ ?_) dX12_init_294
  · intro c k hc
    dsimp only
    repeat (first | rw [if_neg (by omega)] | rw [if_pos (by omega)])
  · intro c k h1 h2 hv
    dsimp only at hv
    repeat' (split at hv)
    all_goals first | exact Bool.noConfusion hv | (exfalso; omega) | (have hc0 : c = 181 := by omega
                                                          subst hc0
                                                          exact lf_12 _ (by decide) k (by omega) hv) | (exfalso; have hq := of_decide_eq_true hv; have e5 : kl 5 = 8 := by decide
                                                                                                have e11 : kl 11 = 16 := by decide
                                                                                                have e77 : kl 77 = 4 := by decide
                                                                                                omega)
