theorem nd_0 (B n : Nat) (hk : kt n = 0 + 3) : ∀ j, j < 6 → defaultValue (tyX0 j) = svv B (zfk 0 j n) (if isR n j = true then -1 else 0) := by
  intro j hj
  unfold isR
  rw [zsk_obj hk]
  match j, hj with
  | 0, _ => rfl
  | 1, _ => rfl
  | 2, _ => rfl
  | 3, _ => rfl
  | 4, _ => rfl
  | 5, _ => rfl
  | j + 6, hj => exact absurd hj (by omega)
theorem nd_1 (B n : Nat) (hk : kt n = 1 + 3) : ∀ j, j < 2 → defaultValue (tyX1 j) = svv B (zfk 1 j n) (if isR n j = true then -1 else 0) := by
  intro j hj
  unfold isR
  rw [zsk_obj hk]
  match j, hj with
  | 0, _ => rfl
  | 1, _ => rfl
  | j + 2, hj => exact absurd hj (by omega)
theorem nd_2 (B n : Nat) (hk : kt n = 2 + 3) : ∀ j, j < 5 → defaultValue (tyX2 j) = svv B (zfk 2 j n) (if isR n j = true then -1 else 0) := by
  intro j hj
  unfold isR
  rw [zsk_obj hk]
  match j, hj with
  | 0, _ => rfl
  | 1, _ => rfl
  | 2, _ => rfl
  | 3, _ => rfl
  | 4, _ => rfl
  | j + 5, hj => exact absurd hj (by omega)
theorem nd_3 (B n : Nat) (hk : kt n = 3 + 3) : ∀ j, j < 4 → defaultValue (tyX3 j) = svv B (zfk 3 j n) (if isR n j = true then -1 else 0) := by
  intro j hj
  unfold isR
  rw [zsk_obj hk]
  match j, hj with
  | 0, _ => rfl
  | 1, _ => rfl
  | 2, _ => rfl
  | 3, _ => rfl
  | j + 4, hj => exact absurd hj (by omega)
theorem nd_4 (B n : Nat) (hk : kt n = 4 + 3) : ∀ j, j < 10 → defaultValue (tyX4 j) = svv B (zfk 4 j n) (if isR n j = true then -1 else 0) := by
  intro j hj
  unfold isR
  rw [zsk_obj hk]
  match j, hj with
  | 0, _ => rfl
  | 1, _ => rfl
  | 2, _ => rfl
  | 3, _ => rfl
  | 4, _ => rfl
  | 5, _ => rfl
  | 6, _ => rfl
  | 7, _ => rfl
  | 8, _ => rfl
  | 9, _ => rfl
  | j + 10, hj => exact absurd hj (by omega)
theorem nd_5 (B n : Nat) (hk : kt n = 5 + 3) : ∀ j, j < 5 → defaultValue (tyX5 j) = svv B (zfk 5 j n) (if isR n j = true then -1 else 0) := by
  intro j hj
  unfold isR
  rw [zsk_obj hk]
  match j, hj with
  | 0, _ => rfl
  | 1, _ => rfl
  | 2, _ => rfl
  | 3, _ => rfl
  | 4, _ => rfl
  | j + 5, hj => exact absurd hj (by omega)
theorem nd_6 (B n : Nat) (hk : kt n = 6 + 3) : ∀ j, j < 6 → defaultValue (tyX6 j) = svv B (zfk 6 j n) (if isR n j = true then -1 else 0) := by
  intro j hj
  unfold isR
  rw [zsk_obj hk]
  match j, hj with
  | 0, _ => rfl
  | 1, _ => rfl
  | 2, _ => rfl
  | 3, _ => rfl
  | 4, _ => rfl
  | 5, _ => rfl
  | j + 6, hj => exact absurd hj (by omega)
theorem nd_7 (B n : Nat) (hk : kt n = 7 + 3) : ∀ j, j < 15 → defaultValue (tyX7 j) = svv B (zfk 7 j n) (if isR n j = true then -1 else 0) := by
  intro j hj
  unfold isR
  rw [zsk_obj hk]
  match j, hj with
  | 0, _ => rfl
  | 1, _ => rfl
  | 2, _ => rfl
  | 3, _ => rfl
  | 4, _ => rfl
  | 5, _ => rfl
  | 6, _ => rfl
  | 7, _ => rfl
  | 8, _ => rfl
  | 9, _ => rfl
  | 10, _ => rfl
  | 11, _ => rfl
  | 12, _ => rfl
  | 13, _ => rfl
  | 14, _ => rfl
  | j + 15, hj => exact absurd hj (by omega)
theorem nd_8 (B n : Nat) (hk : kt n = 8 + 3) : ∀ j, j < 4 → defaultValue (tyX8 j) = svv B (zfk 8 j n) (if isR n j = true then -1 else 0) := by
  intro j hj
  unfold isR
  rw [zsk_obj hk]
  match j, hj with
  | 0, _ => rfl
  | 1, _ => rfl
  | 2, _ => rfl
  | 3, _ => rfl
  | j + 4, hj => exact absurd hj (by omega)
theorem nd_9 (B n : Nat) (hk : kt n = 9 + 3) : ∀ j, j < 6 → defaultValue (tyX9 j) = svv B (zfk 9 j n) (if isR n j = true then -1 else 0) := by
  intro j hj
  unfold isR
  rw [zsk_obj hk]
  match j, hj with
  | 0, _ => rfl
  | 1, _ => rfl
  | 2, _ => rfl
  | 3, _ => rfl
  | 4, _ => rfl
  | 5, _ => rfl
  | j + 6, hj => exact absurd hj (by omega)
theorem nd_10 (B n : Nat) (hk : kt n = 10 + 3) : ∀ j, j < 9 → defaultValue (tyX10 j) = svv B (zfk 10 j n) (if isR n j = true then -1 else 0) := by
  intro j hj
  unfold isR
  rw [zsk_obj hk]
  match j, hj with
  | 0, _ => rfl
  | 1, _ => rfl
  | 2, _ => rfl
  | 3, _ => rfl
  | 4, _ => rfl
  | 5, _ => rfl
  | 6, _ => rfl
  | 7, _ => rfl
  | 8, _ => rfl
  | j + 9, hj => exact absurd hj (by omega)
theorem nd_11 (B n : Nat) (hk : kt n = 11 + 3) : ∀ j, j < 16 → defaultValue (tyX11 j) = svv B (zfk 11 j n) (if isR n j = true then -1 else 0) := by
  intro j hj
  unfold isR
  rw [zsk_obj hk]
  match j, hj with
  | 0, _ => rfl
  | 1, _ => rfl
  | 2, _ => rfl
  | 3, _ => rfl
  | 4, _ => rfl
  | 5, _ => rfl
  | 6, _ => rfl
  | 7, _ => rfl
  | 8, _ => rfl
  | 9, _ => rfl
  | 10, _ => rfl
  | 11, _ => rfl
  | 12, _ => rfl
  | 13, _ => rfl
  | 14, _ => rfl
  | 15, _ => rfl
  | j + 16, hj => exact absurd hj (by omega)
theorem nd_12 (B n : Nat) (hk : kt n = 12 + 3) : ∀ j, j < 55 → defaultValue (tyX12 j) = svv B (zfk 12 j n) (if isR n j = true then -1 else 0) := by
  intro j hj
  unfold isR
  rw [zsk_obj hk]
  match j, hj with
  | 0, _ => rfl
  | 1, _ => rfl
  | 2, _ => rfl
  | 3, _ => rfl
  | 4, _ => rfl
  | 5, _ => rfl
  | 6, _ => rfl
  | 7, _ => rfl
  | 8, _ => rfl
  | 9, _ => rfl
  | 10, _ => rfl
  | 11, _ => rfl
  | 12, _ => rfl
  | 13, _ => rfl
  | 14, _ => rfl
  | 15, _ => rfl
  | 16, _ => rfl
  | 17, _ => rfl
  | 18, _ => rfl
  | 19, _ => rfl
  | 20, _ => rfl
  | 21, _ => rfl
  | 22, _ => rfl
  | 23, _ => rfl
  | 24, _ => rfl
  | 25, _ => rfl
  | 26, _ => rfl
  | 27, _ => rfl
  | 28, _ => rfl
  | 29, _ => rfl
  | 30, _ => rfl
  | 31, _ => rfl
  | 32, _ => rfl
  | 33, _ => rfl
  | 34, _ => rfl
  | 35, _ => rfl
  | 36, _ => rfl
  | 37, _ => rfl
  | 38, _ => rfl
  | 39, _ => rfl
  | 40, _ => rfl
  | 41, _ => rfl
  | 42, _ => rfl
  | 43, _ => rfl
  | 44, _ => rfl
  | 45, _ => rfl
  | 46, _ => rfl
  | 47, _ => rfl
  | 48, _ => rfl
  | 49, _ => rfl
  | 50, _ => rfl
  | 51, _ => rfl
  | 52, _ => rfl
  | 53, _ => rfl
  | 54, _ => rfl
  | j + 55, hj => exact absurd hj (by omega)
theorem he_gen {u v : Nat → Nat → Bool} {n N : Nat} (h1 : ∀ c k, c < n → v c k = u c k) (h2 : ∀ c k, n ≤ c → c < N → v c k = true → hFin c k = -1) : ∀ c, c < N → hB v c = hB (fun c k => if c < n then u c k else false) c := by
  intro c hc
  funext k
  unfold hB
  rcases Nat.lt_or_ge c n with q | q
  · simp only [if_pos q, h1 c k q]
  · simp only [if_neg (show ¬ c < n by omega)]
    by_cases hv : v c k = true
    · rw [if_pos hv, h2 c k q hc hv]; rfl
    · rw [if_neg hv]; rfl
theorem lfk4 {k : Nat} (h0 : ¬ k = 0) (h1 : ¬ k = 1) (h2 : ¬ k = 2) (h3 : ¬ k = 3) : ¬ k < 4 := by omega
theorem lfk8 {k : Nat} (h0 : ¬ k = 0) (h1 : ¬ k = 1) (h2 : ¬ k = 2) (h3 : ¬ k = 3) (h4 : ¬ k = 4) (h5 : ¬ k = 5) (h6 : ¬ k = 6) (h7 : ¬ k = 7) : ¬ k < 8 := by omega
theorem lfk16 {k : Nat} (h0 : ¬ k = 0) (h1 : ¬ k = 1) (h2 : ¬ k = 2) (h3 : ¬ k = 3) (h4 : ¬ k = 4) (h5 : ¬ k = 5) (h6 : ¬ k = 6) (h7 : ¬ k = 7) (h8 : ¬ k = 8) (h9 : ¬ k = 9) (h10 : ¬ k = 10) (h11 : ¬ k = 11) (h12 : ¬ k = 12) (h13 : ¬ k = 13) (h14 : ¬ k = 14) (h15 : ¬ k = 15) : ¬ k < 16 := by omega
theorem zlp1 {P : Prop} [Decidable P] {b : Bool} (h : (if P then false else b) = true) : ¬ P ∧ b = true := by by_cases q : P <;> simp_all
theorem zlp2 {P : Prop} [Decidable P] {x b : Bool} (h : (if P then x else b) = true) : (P ∧ x = true) ∨ (¬ P ∧ b = true) := by by_cases q : P <;> simp_all
theorem zlp3 {P : Prop} [Decidable P] {b : Bool} (h : (if P then b else false) = true) : P ∧ b = true := by by_cases q : P <;> simp_all
theorem lfx {c a k : Nat} (e : c = a) (f : isR a k = true → hFin a k = -1) (h : isR c k = true) : hFin c k = -1 := by subst e; exact f h
theorem lfd {k n m : Nat} (hv : decide (k < kl n) = true) (e : kl n = m) (h : ¬ k < m) : False := h (by have := of_decide_eq_true hv; omega)
theorem dX1_init_0 : decode cX1_init 0 = .ok (.aload_n 0, 1) := by decide +kernel
theorem dX1_init_1 : decode cX1_init 1 = .ok (.invokespecial 3, 3) := by decide +kernel
theorem dX1_init_4 : decode cX1_init 4 = .ok (.aload_n 0, 1) := by decide +kernel
theorem dX1_init_5 : decode cX1_init 5 = .ok (.iload_n 1, 1) := by decide +kernel
theorem dX1_init_6 : decode cX1_init 6 = .ok (.iconst 0, 1) := by decide +kernel
theorem dX1_init_7 : decode cX1_init 7 = .ok (.invokestatic 9, 3) := by decide +kernel
theorem dX1_init_10 : decode cX1_init 10 = .ok (.newarray .int, 2) := by decide +kernel
theorem dX1_init_12 : decode cX1_init 12 = .ok (.putfield 15, 3) := by decide +kernel
theorem dX1_init_15 : decode cX1_init 15 = .ok (.return_, 1) := by decide +kernel
theorem zl_1 : ∀ n, n < 217 → kt n = 4 → kt (n + 1) = 0 := by decide +kernel
theorem lf_1 (a : Nat) (hk : kt a = 1 + 3) : ∀ k, (k ≠ 0) → isR a k = true → hFin a k = -1 := by
  intro k hne h
  unfold isR at h
  unfold hFin
  rw [zsk_obj hk] at h ⊢
  match k, hne, h with
  | 0, hne, _ => exact absurd hne (by omega)
  | 1, _, h => exact Bool.noConfusion h
  | k + 2, _, h => exact Bool.noConfusion h
set_option maxHeartbeats 8000000 in
set_option maxRecDepth 100000 in
theorem kX1_init (l : Launch) (g : zG) (B : Nat) (u : Nat → Nat → Bool) (n : Nat) (hk : kt n = 1 + 3) (w : Nat) (hkl : kl (n + 1) = w) : CTn l g B yX1_init cX1_init 2 1 1 w [.ref (B + n), .int (ii (w : Int))] (fun c k => if c = n then isR c k else u c k) (n + 1) (fun c k => if c < n then u c k else false) := by
  refine n_enter (by decide) rfl rfl (Nat.le_of_ble_eq_true rfl) ?_
  intro p e s m args below meth c ls cn hn hl
  have hl : lv_has ls 2 [(0, .ref (B + n)), (1, .int (ii (w : Int)))] := hl
  have hq : rng (w : Int) := by have := kl_rng (n + 1) (kt_lt (zl_1 n (kt_lt hk (by decide)) hk) (by decide)); constructor <;> omega
  refine lv_aload_n cn.1 cn.2.1 dX1_init_0 rfl (lv_at hl 0 rfl) ?_
  refine W.objInit cn.1 cn.2.1 cn.2.2.2.1 (cn.2.2.2.2.1 _ mo_X1) (cn.2.2.2.2.1 _ zw_oi.1) (cn.2.2.2.2.1 _ zw_oi.2) rfl (hl.1.trans cn.2.2.1.symm) rfl dX1_init_1 (Nat.le_of_ble_eq_true rfl) (Nat.le_of_ble_eq_true rfl) ?_
  refine lv_aload_n cn.1 cn.2.1 dX1_init_4 rfl (lv_at hl 0 rfl) ?_
  refine lv_iload_n cn.1 cn.2.1 dX1_init_5 rfl (lv_at hl 1 rfl) ?_
  refine lv_iconst (v := ii 0) cn.1 cn.2.1 dX1_init_6 (by decide) ?_
  refine va_mmax cn.1 cn.2.1 (cn.2.2.1.trans hl.1.symm) cn.2.2.2.1 (cn.2.2.2.2.1 _ mx_X1_9.1) (cn.2.2.2.2.1 _ mx_X1_9.2.1) (cn.2.2.2.2.1 _ mx_X1_9.2.2.1) (cn.2.2.2.2.1 _ mx_X1_9.2.2.2) (Nat.le_of_ble_eq_true rfl) (Nat.le_of_ble_eq_true rfl) (Nat.zero_le _) (Nat.zero_le _) dX1_init_7 ?_
  rw [if_neg (fun z => by have := (ii_lt hq rng_0).mp z; omega)]
  refine n_newa cn hn hq (zl_1 n (kt_lt hk (by decide)) hk) (by rw [hkl]) (Nat.le_of_ble_eq_true rfl) (by rw [hkl]; exact Nat.le_of_eq (Nat.zero_add _)) dX1_init_10 (fun H hn => ?_)
  rw [hkl]
  refine n_put cn hn tyX1 tyX1_ok nmX1 1 0 (n + 1) rfl zin_1 (by decide) (by decide) hk (by omega) (Or.inl rfl) (hFin_s hk rfl) rfl (Or.inr ⟨_, rfl⟩) fl_X1_15 dX1_init_12 (fun H locs hn => ?_)
  refine W.widen (k := 1) (n := w) (by omega) (by omega) ?_
  refine n_vret (n0 := n + 1) cn hn rfl (he_gen ?_ ?_) dX1_init_15
  · intro c k hc
    refine (if_neg (by omega)).trans ?_
    refine (if_neg (by omega)).trans ?_
    exact if_neg (by omega)
  · intro c k h1 h2 hv
    obtain ⟨n1, hv⟩ := zlp1 hv
    obtain ⟨n2, hv⟩ := zlp1 hv
    rcases zlp2 hv with ⟨e0, hv⟩ | ⟨e0, hv⟩
    · exact lfx e0 (lf_1 n hk k (fun z => n1 ⟨e0, z⟩)) hv
    · have g1 : n + 1 ≤ c := Nat.lt_of_le_of_ne h1 (fun z => e0 z.symm)
      have g2 : n + 2 ≤ c := Nat.lt_of_le_of_ne g1 (fun z => n2 z.symm)
      exact absurd h2 (Nat.not_lt.mpr g2)
theorem dX0_init_0 : decode cX0_init 0 = .ok (.aload_n 0, 1) := by decide +kernel
theorem dX0_init_1 : decode cX0_init 1 = .ok (.invokespecial 3, 3) := by decide +kernel
theorem dX0_init_4 : decode cX0_init 4 = .ok (.aload_n 0, 1) := by decide +kernel
theorem dX0_init_5 : decode cX0_init 5 = .ok (.iconst 4, 1) := by decide +kernel
theorem dX0_init_6 : decode cX0_init 6 = .ok (.newarray .int, 2) := by decide +kernel
theorem dX0_init_8 : decode cX0_init 8 = .ok (.putfield 9, 3) := by decide +kernel
theorem dX0_init_11 : decode cX0_init 11 = .ok (.aload_n 0, 1) := by decide +kernel
theorem dX0_init_12 : decode cX0_init 12 = .ok (.iconst 5, 1) := by decide +kernel
theorem dX0_init_13 : decode cX0_init 13 = .ok (.newarray .int, 2) := by decide +kernel
theorem dX0_init_15 : decode cX0_init 15 = .ok (.putfield 15, 3) := by decide +kernel
theorem dX0_init_18 : decode cX0_init 18 = .ok (.aload_n 0, 1) := by decide +kernel
theorem dX0_init_19 : decode cX0_init 19 = .ok (.sipush 196, 3) := by decide +kernel
theorem dX0_init_22 : decode cX0_init 22 = .ok (.newarray .int, 2) := by decide +kernel
theorem dX0_init_24 : decode cX0_init 24 = .ok (.putfield 18, 3) := by decide +kernel
theorem dX0_init_27 : decode cX0_init 27 = .ok (.return_, 1) := by decide +kernel
theorem zl_0_ : ∀ n, n < 217 → kt n = 3 → kt (n + 1) = 0 ∧ kl (n + 1) = 4 ∧ kt (n + 2) = 0 ∧ kl (n + 2) = 5 ∧ kt (n + 3) = 0 ∧ kl (n + 3) = 196 := by decide +kernel
theorem zl_0 (n : Nat) (hk : kt n = 0 + 3) : kt (n + 1) = 0 ∧ kl (n + 1) = 4 ∧ kt (n + 2) = 0 ∧ kl (n + 2) = 5 ∧ kt (n + 3) = 0 ∧ kl (n + 3) = 196 := zl_0_ n (kt_lt hk (by decide)) hk
theorem lf_0 (a : Nat) (hk : kt a = 0 + 3) : ∀ k, (k ≠ 3 ∧ k ≠ 4 ∧ k ≠ 5) → isR a k = true → hFin a k = -1 := by
  intro k hne h
  unfold isR at h
  unfold hFin
  rw [zsk_obj hk] at h ⊢
  match k, hne, h with
  | 0, _, h => exact Bool.noConfusion h
  | 1, _, h => exact Bool.noConfusion h
  | 2, _, h => exact Bool.noConfusion h
  | 3, hne, _ => exact absurd hne (by omega)
  | 4, hne, _ => exact absurd hne (by omega)
  | 5, hne, _ => exact absurd hne (by omega)
  | k + 6, _, h => exact Bool.noConfusion h
set_option maxHeartbeats 8000000 in
set_option maxRecDepth 100000 in
theorem kX0_init (l : Launch) (g : zG) (B : Nat) (u : Nat → Nat → Bool) (n : Nat) (hk : kt n = 0 + 3) : CTn l g B yX0_init cX0_init 1 1 3 205 [.ref (B + n)] (fun c k => if c = n then isR c k else u c k) (n + 1) (fun c k => if c < n then u c k else false) := by
  refine n_enter (by decide) rfl rfl (Nat.le_of_ble_eq_true rfl) ?_
  intro p e s m args below meth c ls cn hn hl
  have hl : lv_has ls 1 [(0, .ref (B + n))] := hl
  refine lv_aload_n cn.1 cn.2.1 dX0_init_0 rfl (lv_at hl 0 rfl) ?_
  refine W.objInit cn.1 cn.2.1 cn.2.2.2.1 (cn.2.2.2.2.1 _ mo_X0) (cn.2.2.2.2.1 _ zw_oi.1) (cn.2.2.2.2.1 _ zw_oi.2) rfl (hl.1.trans cn.2.2.1.symm) rfl dX0_init_1 (Nat.le_of_ble_eq_true rfl) (Nat.le_of_ble_eq_true rfl) ?_
  refine lv_aload_n cn.1 cn.2.1 dX0_init_4 rfl (lv_at hl 0 rfl) ?_
  refine lv_iconst (v := ii 4) cn.1 cn.2.1 dX0_init_5 (by decide) ?_
  refine n_newa cn hn (by decide) (zl_0 n hk).1 (by rw [(zl_0 n hk).2.1]; rfl) (by decide) (by rw [(zl_0 n hk).2.1]; decide) dX0_init_6 (fun H hn => ?_)
  rw [(zl_0 n hk).2.1]
  refine n_put cn hn tyX0 tyX0_ok nmX0 0 3 (n + 1) rfl zin_0 (by decide) (by decide) hk (by omega) (Or.inl rfl) (hFin_s hk rfl) rfl (Or.inr ⟨_, rfl⟩) fl_X0_9 dX0_init_8 (fun H locs hn => ?_)
  refine lv_aload_n cn.1 cn.2.1 dX0_init_11 rfl (lv_at hl 0 rfl) ?_
  refine lv_iconst (v := ii 5) cn.1 cn.2.1 dX0_init_12 (by decide) ?_
  refine n_newa cn hn (by decide) (zl_0 n hk).2.2.1 (by rw [(zl_0 n hk).2.2.2.1]; rfl) (by decide) (by rw [(zl_0 n hk).2.2.2.1]; decide) dX0_init_13 (fun H hn => ?_)
  rw [(zl_0 n hk).2.2.2.1]
  refine n_put cn hn tyX0 tyX0_ok nmX0 0 4 (n + 2) rfl zin_0 (by decide) (by decide) hk (by omega) (Or.inl rfl) (hFin_s hk rfl) rfl (Or.inr ⟨_, rfl⟩) fl_X0_15 dX0_init_15 (fun H locs hn => ?_)
  refine lv_aload_n cn.1 cn.2.1 dX0_init_18 rfl (lv_at hl 0 rfl) ?_
  refine lv_sipush (v := ii 196) cn.1 cn.2.1 dX0_init_19 (by decide) ?_
  refine n_newa cn hn (by decide) (zl_0 n hk).2.2.2.2.1 (by rw [(zl_0 n hk).2.2.2.2.2]; rfl) (by decide) (by rw [(zl_0 n hk).2.2.2.2.2]; decide) dX0_init_22 (fun H hn => ?_)
  rw [(zl_0 n hk).2.2.2.2.2]
  refine n_put cn hn tyX0 tyX0_ok nmX0 0 5 (n + 3) rfl zin_0 (by decide) (by decide) hk (by omega) (Or.inl rfl) (hFin_s hk rfl) rfl (Or.inr ⟨_, rfl⟩) fl_X0_18 dX0_init_24 (fun H locs hn => ?_)
  refine W.widen (k := 3) (n := 205) (by omega) (by omega) ?_
  refine n_vret (n0 := n + 1) cn hn rfl (he_gen ?_ ?_) dX0_init_27
  · intro c k hc
    refine (if_neg (by omega)).trans ?_
    refine (if_neg (by omega)).trans ?_
    refine (if_neg (by omega)).trans ?_
    refine (if_neg (by omega)).trans ?_
    refine (if_neg (by omega)).trans ?_
    refine (if_neg (by omega)).trans ?_
    exact if_neg (by omega)
  · intro c k h1 h2 hv
    obtain ⟨n1, hv⟩ := zlp1 hv
    obtain ⟨n2, hv⟩ := zlp1 hv
    obtain ⟨n3, hv⟩ := zlp1 hv
    obtain ⟨n4, hv⟩ := zlp1 hv
    obtain ⟨n5, hv⟩ := zlp1 hv
    obtain ⟨n6, hv⟩ := zlp1 hv
    rcases zlp2 hv with ⟨e0, hv⟩ | ⟨e0, hv⟩
    · exact lfx e0 (lf_0 n hk k ⟨(fun z => n5 ⟨e0, z⟩), (fun z => n3 ⟨e0, z⟩), (fun z => n1 ⟨e0, z⟩)⟩) hv
    · have g1 : n + 1 ≤ c := Nat.lt_of_le_of_ne h1 (fun z => e0 z.symm)
      have g2 : n + 2 ≤ c := Nat.lt_of_le_of_ne g1 (fun z => n6 z.symm)
      have g3 : n + 3 ≤ c := Nat.lt_of_le_of_ne g2 (fun z => n4 z.symm)
      have g4 : n + 4 ≤ c := Nat.lt_of_le_of_ne g3 (fun z => n2 z.symm)
      exact absurd h2 (Nat.not_lt.mpr g4)
theorem dX4_init_0 : decode cX4_init 0 = .ok (.aload_n 0, 1) := by decide +kernel
theorem dX4_init_1 : decode cX4_init 1 = .ok (.invokespecial 3, 3) := by decide +kernel
theorem dX4_init_4 : decode cX4_init 4 = .ok (.aload_n 0, 1) := by decide +kernel
theorem dX4_init_5 : decode cX4_init 5 = .ok (.bipush 7, 2) := by decide +kernel
theorem dX4_init_7 : decode cX4_init 7 = .ok (.newarray .int, 2) := by decide +kernel
theorem dX4_init_9 : decode cX4_init 9 = .ok (.putfield 9, 3) := by decide +kernel
theorem dX4_init_12 : decode cX4_init 12 = .ok (.aload_n 0, 1) := by decide +kernel
theorem dX4_init_13 : decode cX4_init 13 = .ok (.bipush 6, 2) := by decide +kernel
theorem dX4_init_15 : decode cX4_init 15 = .ok (.newarray .int, 2) := by decide +kernel
theorem dX4_init_17 : decode cX4_init 17 = .ok (.putfield 15, 3) := by decide +kernel
theorem dX4_init_20 : decode cX4_init 20 = .ok (.aload_n 0, 1) := by decide +kernel
theorem dX4_init_21 : decode cX4_init 21 = .ok (.bipush 41, 2) := by decide +kernel
theorem dX4_init_23 : decode cX4_init 23 = .ok (.newarray .int, 2) := by decide +kernel
theorem dX4_init_25 : decode cX4_init 25 = .ok (.putfield 18, 3) := by decide +kernel
theorem dX4_init_28 : decode cX4_init 28 = .ok (.aload_n 0, 1) := by decide +kernel
theorem dX4_init_29 : decode cX4_init 29 = .ok (.bipush 40, 2) := by decide +kernel
theorem dX4_init_31 : decode cX4_init 31 = .ok (.newarray .int, 2) := by decide +kernel
theorem dX4_init_33 : decode cX4_init 33 = .ok (.putfield 21, 3) := by decide +kernel
theorem dX4_init_36 : decode cX4_init 36 = .ok (.aload_n 0, 1) := by decide +kernel
theorem dX4_init_37 : decode cX4_init 37 = .ok (.bipush 80, 2) := by decide +kernel
theorem dX4_init_39 : decode cX4_init 39 = .ok (.newarray .int, 2) := by decide +kernel
theorem dX4_init_41 : decode cX4_init 41 = .ok (.putfield 24, 3) := by decide +kernel
theorem dX4_init_44 : decode cX4_init 44 = .ok (.aload_n 0, 1) := by decide +kernel
theorem dX4_init_45 : decode cX4_init 45 = .ok (.bipush 80, 2) := by decide +kernel
theorem dX4_init_47 : decode cX4_init 47 = .ok (.newarray .int, 2) := by decide +kernel
theorem dX4_init_49 : decode cX4_init 49 = .ok (.putfield 27, 3) := by decide +kernel
theorem dX4_init_52 : decode cX4_init 52 = .ok (.aload_n 0, 1) := by decide +kernel
theorem dX4_init_53 : decode cX4_init 53 = .ok (.bipush 80, 2) := by decide +kernel
theorem dX4_init_55 : decode cX4_init 55 = .ok (.newarray .int, 2) := by decide +kernel
theorem dX4_init_57 : decode cX4_init 57 = .ok (.putfield 30, 3) := by decide +kernel
theorem dX4_init_60 : decode cX4_init 60 = .ok (.return_, 1) := by decide +kernel
theorem zl_4_ : ∀ n, n < 217 → kt n = 7 → kt (n + 1) = 0 ∧ kl (n + 1) = 7 ∧ kt (n + 2) = 0 ∧ kl (n + 2) = 6 ∧ kt (n + 3) = 0 ∧ kl (n + 3) = 41 ∧ kt (n + 4) = 0 ∧ kl (n + 4) = 40 ∧ kt (n + 5) = 0 ∧ kl (n + 5) = 80 ∧ kt (n + 6) = 0 ∧ kl (n + 6) = 80 ∧ kt (n + 7) = 0 ∧ kl (n + 7) = 80 := by decide +kernel
theorem zl_4 (n : Nat) (hk : kt n = 4 + 3) : kt (n + 1) = 0 ∧ kl (n + 1) = 7 ∧ kt (n + 2) = 0 ∧ kl (n + 2) = 6 ∧ kt (n + 3) = 0 ∧ kl (n + 3) = 41 ∧ kt (n + 4) = 0 ∧ kl (n + 4) = 40 ∧ kt (n + 5) = 0 ∧ kl (n + 5) = 80 ∧ kt (n + 6) = 0 ∧ kl (n + 6) = 80 ∧ kt (n + 7) = 0 ∧ kl (n + 7) = 80 := zl_4_ n (kt_lt hk (by decide)) hk
theorem lf_4 (a : Nat) (hk : kt a = 4 + 3) : ∀ k, (k ≠ 3 ∧ k ≠ 4 ∧ k ≠ 5 ∧ k ≠ 6 ∧ k ≠ 7 ∧ k ≠ 8 ∧ k ≠ 9) → isR a k = true → hFin a k = -1 := by
  intro k hne h
  unfold isR at h
  unfold hFin
  rw [zsk_obj hk] at h ⊢
  match k, hne, h with
  | 0, _, h => exact Bool.noConfusion h
  | 1, _, h => exact Bool.noConfusion h
  | 2, _, h => exact Bool.noConfusion h
  | 3, hne, _ => exact absurd hne (by omega)
  | 4, hne, _ => exact absurd hne (by omega)
  | 5, hne, _ => exact absurd hne (by omega)
  | 6, hne, _ => exact absurd hne (by omega)
  | 7, hne, _ => exact absurd hne (by omega)
  | 8, hne, _ => exact absurd hne (by omega)
  | 9, hne, _ => exact absurd hne (by omega)
  | k + 10, _, h => exact Bool.noConfusion h
set_option maxHeartbeats 8000000 in
set_option maxRecDepth 100000 in
theorem kX4_init (l : Launch) (g : zG) (B : Nat) (u : Nat → Nat → Bool) (n : Nat) (hk : kt n = 4 + 3) : CTn l g B yX4_init cX4_init 1 1 7 334 [.ref (B + n)] (fun c k => if c = n then isR c k else u c k) (n + 1) (fun c k => if c < n then u c k else false) := by
  refine n_enter (by decide) rfl rfl (Nat.le_of_ble_eq_true rfl) ?_
  intro p e s m args below meth c ls cn hn hl
  have hl : lv_has ls 1 [(0, .ref (B + n))] := hl
  refine lv_aload_n cn.1 cn.2.1 dX4_init_0 rfl (lv_at hl 0 rfl) ?_
  refine W.objInit cn.1 cn.2.1 cn.2.2.2.1 (cn.2.2.2.2.1 _ mo_X4) (cn.2.2.2.2.1 _ zw_oi.1) (cn.2.2.2.2.1 _ zw_oi.2) rfl (hl.1.trans cn.2.2.1.symm) rfl dX4_init_1 (Nat.le_of_ble_eq_true rfl) (Nat.le_of_ble_eq_true rfl) ?_
  refine lv_aload_n cn.1 cn.2.1 dX4_init_4 rfl (lv_at hl 0 rfl) ?_
  refine lv_bipush (v := ii 7) cn.1 cn.2.1 dX4_init_5 (by decide) ?_
  refine n_newa cn hn (by decide) (zl_4 n hk).1 (by rw [(zl_4 n hk).2.1]; rfl) (by decide) (by rw [(zl_4 n hk).2.1]; decide) dX4_init_7 (fun H hn => ?_)
  rw [(zl_4 n hk).2.1]
  refine n_put cn hn tyX4 tyX4_ok nmX4 4 3 (n + 1) rfl zin_4 (by decide) (by decide) hk (by omega) (Or.inl rfl) (hFin_s hk rfl) rfl (Or.inr ⟨_, rfl⟩) fl_X4_9 dX4_init_9 (fun H locs hn => ?_)
  refine lv_aload_n cn.1 cn.2.1 dX4_init_12 rfl (lv_at hl 0 rfl) ?_
  refine lv_bipush (v := ii 6) cn.1 cn.2.1 dX4_init_13 (by decide) ?_
  refine n_newa cn hn (by decide) (zl_4 n hk).2.2.1 (by rw [(zl_4 n hk).2.2.2.1]; rfl) (by decide) (by rw [(zl_4 n hk).2.2.2.1]; decide) dX4_init_15 (fun H hn => ?_)
  rw [(zl_4 n hk).2.2.2.1]
  refine n_put cn hn tyX4 tyX4_ok nmX4 4 4 (n + 2) rfl zin_4 (by decide) (by decide) hk (by omega) (Or.inl rfl) (hFin_s hk rfl) rfl (Or.inr ⟨_, rfl⟩) fl_X4_15 dX4_init_17 (fun H locs hn => ?_)
  refine lv_aload_n cn.1 cn.2.1 dX4_init_20 rfl (lv_at hl 0 rfl) ?_
  refine lv_bipush (v := ii 41) cn.1 cn.2.1 dX4_init_21 (by decide) ?_
  refine n_newa cn hn (by decide) (zl_4 n hk).2.2.2.2.1 (by rw [(zl_4 n hk).2.2.2.2.2.1]; rfl) (by decide) (by rw [(zl_4 n hk).2.2.2.2.2.1]; decide) dX4_init_23 (fun H hn => ?_)
  rw [(zl_4 n hk).2.2.2.2.2.1]
  refine n_put cn hn tyX4 tyX4_ok nmX4 4 5 (n + 3) rfl zin_4 (by decide) (by decide) hk (by omega) (Or.inl rfl) (hFin_s hk rfl) rfl (Or.inr ⟨_, rfl⟩) fl_X4_18 dX4_init_25 (fun H locs hn => ?_)
  refine lv_aload_n cn.1 cn.2.1 dX4_init_28 rfl (lv_at hl 0 rfl) ?_
  refine lv_bipush (v := ii 40) cn.1 cn.2.1 dX4_init_29 (by decide) ?_
  refine n_newa cn hn (by decide) (zl_4 n hk).2.2.2.2.2.2.1 (by rw [(zl_4 n hk).2.2.2.2.2.2.2.1]; rfl) (by decide) (by rw [(zl_4 n hk).2.2.2.2.2.2.2.1]; decide) dX4_init_31 (fun H hn => ?_)
  rw [(zl_4 n hk).2.2.2.2.2.2.2.1]
  refine n_put cn hn tyX4 tyX4_ok nmX4 4 6 (n + 4) rfl zin_4 (by decide) (by decide) hk (by omega) (Or.inl rfl) (hFin_s hk rfl) rfl (Or.inr ⟨_, rfl⟩) fl_X4_21 dX4_init_33 (fun H locs hn => ?_)
  refine lv_aload_n cn.1 cn.2.1 dX4_init_36 rfl (lv_at hl 0 rfl) ?_
  refine lv_bipush (v := ii 80) cn.1 cn.2.1 dX4_init_37 (by decide) ?_
  refine n_newa cn hn (by decide) (zl_4 n hk).2.2.2.2.2.2.2.2.1 (by rw [(zl_4 n hk).2.2.2.2.2.2.2.2.2.1]; rfl) (by decide) (by rw [(zl_4 n hk).2.2.2.2.2.2.2.2.2.1]; decide) dX4_init_39 (fun H hn => ?_)
  rw [(zl_4 n hk).2.2.2.2.2.2.2.2.2.1]
  refine n_put cn hn tyX4 tyX4_ok nmX4 4 7 (n + 5) rfl zin_4 (by decide) (by decide) hk (by omega) (Or.inl rfl) (hFin_s hk rfl) rfl (Or.inr ⟨_, rfl⟩) fl_X4_24 dX4_init_41 (fun H locs hn => ?_)
  refine lv_aload_n cn.1 cn.2.1 dX4_init_44 rfl (lv_at hl 0 rfl) ?_
  refine lv_bipush (v := ii 80) cn.1 cn.2.1 dX4_init_45 (by decide) ?_
  refine n_newa cn hn (by decide) (zl_4 n hk).2.2.2.2.2.2.2.2.2.2.1 (by rw [(zl_4 n hk).2.2.2.2.2.2.2.2.2.2.2.1]; rfl) (by decide) (by rw [(zl_4 n hk).2.2.2.2.2.2.2.2.2.2.2.1]; decide) dX4_init_47 (fun H hn => ?_)
  rw [(zl_4 n hk).2.2.2.2.2.2.2.2.2.2.2.1]
  refine n_put cn hn tyX4 tyX4_ok nmX4 4 8 (n + 6) rfl zin_4 (by decide) (by decide) hk (by omega) (Or.inl rfl) (hFin_s hk rfl) rfl (Or.inr ⟨_, rfl⟩) fl_X4_27 dX4_init_49 (fun H locs hn => ?_)
  refine lv_aload_n cn.1 cn.2.1 dX4_init_52 rfl (lv_at hl 0 rfl) ?_
  refine lv_bipush (v := ii 80) cn.1 cn.2.1 dX4_init_53 (by decide) ?_
  refine n_newa cn hn (by decide) (zl_4 n hk).2.2.2.2.2.2.2.2.2.2.2.2.1 (by rw [(zl_4 n hk).2.2.2.2.2.2.2.2.2.2.2.2.2]; rfl) (by decide) (by rw [(zl_4 n hk).2.2.2.2.2.2.2.2.2.2.2.2.2]; decide) dX4_init_55 (fun H hn => ?_)
  rw [(zl_4 n hk).2.2.2.2.2.2.2.2.2.2.2.2.2]
  refine n_put cn hn tyX4 tyX4_ok nmX4 4 9 (n + 7) rfl zin_4 (by decide) (by decide) hk (by omega) (Or.inl rfl) (hFin_s hk rfl) rfl (Or.inr ⟨_, rfl⟩) fl_X4_30 dX4_init_57 (fun H locs hn => ?_)
  refine W.widen (k := 7) (n := 334) (by omega) (by omega) ?_
  refine n_vret (n0 := n + 1) cn hn rfl (he_gen ?_ ?_) dX4_init_60
  · intro c k hc
    refine (if_neg (by omega)).trans ?_
    refine (if_neg (by omega)).trans ?_
    refine (if_neg (by omega)).trans ?_
    refine (if_neg (by omega)).trans ?_
    refine (if_neg (by omega)).trans ?_
    refine (if_neg (by omega)).trans ?_
    refine (if_neg (by omega)).trans ?_
    refine (if_neg (by omega)).trans ?_
    refine (if_neg (by omega)).trans ?_
    refine (if_neg (by omega)).trans ?_
    refine (if_neg (by omega)).trans ?_
    refine (if_neg (by omega)).trans ?_
    refine (if_neg (by omega)).trans ?_
    refine (if_neg (by omega)).trans ?_
    exact if_neg (by omega)
  · intro c k h1 h2 hv
    obtain ⟨n1, hv⟩ := zlp1 hv
    obtain ⟨n2, hv⟩ := zlp1 hv
    obtain ⟨n3, hv⟩ := zlp1 hv
    obtain ⟨n4, hv⟩ := zlp1 hv
    obtain ⟨n5, hv⟩ := zlp1 hv
    obtain ⟨n6, hv⟩ := zlp1 hv
    obtain ⟨n7, hv⟩ := zlp1 hv
    obtain ⟨n8, hv⟩ := zlp1 hv
    obtain ⟨n9, hv⟩ := zlp1 hv
    obtain ⟨n10, hv⟩ := zlp1 hv
    obtain ⟨n11, hv⟩ := zlp1 hv
    obtain ⟨n12, hv⟩ := zlp1 hv
    obtain ⟨n13, hv⟩ := zlp1 hv
    obtain ⟨n14, hv⟩ := zlp1 hv
    rcases zlp2 hv with ⟨e0, hv⟩ | ⟨e0, hv⟩
    · exact lfx e0 (lf_4 n hk k ⟨(fun z => n13 ⟨e0, z⟩), (fun z => n11 ⟨e0, z⟩), (fun z => n9 ⟨e0, z⟩), (fun z => n7 ⟨e0, z⟩), (fun z => n5 ⟨e0, z⟩), (fun z => n3 ⟨e0, z⟩), (fun z => n1 ⟨e0, z⟩)⟩) hv
    · have g1 : n + 1 ≤ c := Nat.lt_of_le_of_ne h1 (fun z => e0 z.symm)
      have g2 : n + 2 ≤ c := Nat.lt_of_le_of_ne g1 (fun z => n14 z.symm)
      have g3 : n + 3 ≤ c := Nat.lt_of_le_of_ne g2 (fun z => n12 z.symm)
      have g4 : n + 4 ≤ c := Nat.lt_of_le_of_ne g3 (fun z => n10 z.symm)
      have g5 : n + 5 ≤ c := Nat.lt_of_le_of_ne g4 (fun z => n8 z.symm)
      have g6 : n + 6 ≤ c := Nat.lt_of_le_of_ne g5 (fun z => n6 z.symm)
      have g7 : n + 7 ≤ c := Nat.lt_of_le_of_ne g6 (fun z => n4 z.symm)
      have g8 : n + 8 ≤ c := Nat.lt_of_le_of_ne g7 (fun z => n2 z.symm)
      exact absurd h2 (Nat.not_lt.mpr g8)
theorem dX3_init_0 : decode cX3_init 0 = .ok (.aload_n 0, 1) := by decide +kernel
theorem dX3_init_1 : decode cX3_init 1 = .ok (.invokespecial 3, 3) := by decide +kernel
theorem dX3_init_4 : decode cX3_init 4 = .ok (.aload_n 0, 1) := by decide +kernel
theorem dX3_init_5 : decode cX3_init 5 = .ok (.bipush 16, 2) := by decide +kernel
theorem dX3_init_7 : decode cX3_init 7 = .ok (.anewarray 9, 3) := by decide +kernel
theorem dX3_init_10 : decode cX3_init 10 = .ok (.putfield 11, 3) := by decide +kernel
theorem dX3_init_13 : decode cX3_init 13 = .ok (.aload_n 0, 1) := by decide +kernel
theorem dX3_init_14 : decode cX3_init 14 = .ok (.bipush 16, 2) := by decide +kernel
theorem dX3_init_16 : decode cX3_init 16 = .ok (.newarray .int, 2) := by decide +kernel
theorem dX3_init_18 : decode cX3_init 18 = .ok (.putfield 17, 3) := by decide +kernel
theorem dX3_init_21 : decode cX3_init 21 = .ok (.iconst 0, 1) := by decide +kernel
theorem dX3_init_22 : decode cX3_init 22 = .ok (.istore_n 1, 1) := by decide +kernel
theorem dX3_init_23 : decode cX3_init 23 = .ok (.iload_n 1, 1) := by decide +kernel
theorem dX3_init_24 : decode cX3_init 24 = .ok (.bipush 16, 2) := by decide +kernel
theorem dX3_init_26 : decode cX3_init 26 = .ok (.if_icmp .ge 22, 3) := by decide +kernel
theorem dX3_init_29 : decode cX3_init 29 = .ok (.aload_n 0, 1) := by decide +kernel
theorem dX3_init_30 : decode cX3_init 30 = .ok (.getfield 11, 3) := by decide +kernel
theorem dX3_init_33 : decode cX3_init 33 = .ok (.iload_n 1, 1) := by decide +kernel
theorem dX3_init_34 : decode cX3_init 34 = .ok (.new 9, 3) := by decide +kernel
theorem dX3_init_37 : decode cX3_init 37 = .ok (.dup, 1) := by decide +kernel
theorem dX3_init_38 : decode cX3_init 38 = .ok (.invokespecial 21, 3) := by decide +kernel
theorem dX3_init_41 : decode cX3_init 41 = .ok (.aastore, 1) := by decide +kernel
theorem dX3_init_42 : decode cX3_init 42 = .ok (.iinc 1 1, 3) := by decide +kernel
theorem dX3_init_45 : decode cX3_init 45 = .ok (.goto (-22), 3) := by decide +kernel
theorem dX3_init_48 : decode cX3_init 48 = .ok (.return_, 1) := by decide +kernel
theorem lf_3 (a : Nat) (hk : kt a = 3 + 3) : ∀ k, (k ≠ 0 ∧ k ≠ 1) → isR a k = true → hFin a k = -1 := by
  intro k hne h
  unfold isR at h
  unfold hFin
  rw [zsk_obj hk] at h ⊢
  match k, hne, h with
  | 0, hne, _ => exact absurd hne (by omega)
  | 1, hne, _ => exact absurd hne (by omega)
  | 2, _, h => exact Bool.noConfusion h
  | 3, _, h => exact Bool.noConfusion h
  | k + 4, _, h => exact Bool.noConfusion h
set_option maxHeartbeats 8000000 in
set_option maxRecDepth 100000 in
theorem kX3_init (l : Launch) (g : zG) (B : Nat) (u : Nat → Nat → Bool) : CTn l g B yX3_init cX3_init 2 2 66 3408 [.ref (B + 10)] (fun c k => if c = 10 then isR c k else u c k) (10 + 1) (fun c k => if c < 10 then u c k else false) := by
  refine n_enter (by decide) rfl rfl (Nat.le_of_ble_eq_true rfl) ?_
  intro p e s m args below meth c ls cn hn hl
  have hl : lv_has ls 2 [(0, .ref (B + 10))] := hl
  refine lv_aload_n cn.1 cn.2.1 dX3_init_0 rfl (lv_at hl 0 rfl) ?_
  refine W.objInit cn.1 cn.2.1 cn.2.2.2.1 (cn.2.2.2.2.1 _ mo_X3) (cn.2.2.2.2.1 _ zw_oi.1) (cn.2.2.2.2.1 _ zw_oi.2) rfl (hl.1.trans cn.2.2.1.symm) rfl dX3_init_1 (Nat.le_of_ble_eq_true rfl) (Nat.le_of_ble_eq_true rfl) ?_
  refine lv_aload_n cn.1 cn.2.1 dX3_init_4 rfl (lv_at hl 0 rfl) ?_
  refine lv_bipush (v := ii 16) cn.1 cn.2.1 dX3_init_5 (by decide) ?_
  refine n_anew cn hn (by decide) (Or.inl ⟨rfl, rfl⟩) (show kt 11 = 1 from by decide) (by decide) cl_X3_9 (by decide) (by decide) dX3_init_7 (fun H hn => ?_)
  refine n_put cn hn tyX3 tyX3_ok nmX3 3 0 11 rfl zin_3 (by decide) (by decide) (show kt 10 = 3 + 3 from by decide) (by omega) (Or.inl rfl) (by decide) rfl (Or.inr ⟨_, rfl⟩) fl_X3_11 dX3_init_10 (fun H locs hn => ?_)
  refine lv_aload_n cn.1 cn.2.1 dX3_init_13 rfl (lv_at hl 0 rfl) ?_
  refine lv_bipush (v := ii 16) cn.1 cn.2.1 dX3_init_14 (by decide) ?_
  refine n_newa cn hn (by decide) (show kt 12 = 0 from by decide) (by decide) (by decide) (by decide) dX3_init_16 (fun H hn => ?_)
  refine n_put cn hn tyX3 tyX3_ok nmX3 3 1 12 rfl zin_3 (by decide) (by decide) (show kt 10 = 3 + 3 from by decide) (by omega) (Or.inl rfl) (by decide) rfl (Or.inr ⟨_, rfl⟩) fl_X3_17 dX3_init_18 (fun H locs hn => ?_)
  refine lv_iconst (v := ii 0) cn.1 cn.2.1 dX3_init_21 (by decide) ?_
  refine lv_istore_n (lv' := [(1, .int (ii 0)), (0, .ref (B + 10))]) cn.1 cn.2.1 dX3_init_22 rfl hl (by decide) rfl (fun ls hl => ?_)
  refine lv_iload_n cn.1 cn.2.1 dX3_init_23 rfl (lv_at hl 0 rfl) ?_
  refine lv_bipush (v := ii 16) cn.1 cn.2.1 dX3_init_24 (by decide) ?_
  refine lv_icmp_ge (tgt := 48) cn.1 cn.2.1 dX3_init_26 (by rfl) (fun q => absurd q (by decide)) (fun _ => ?_)
  refine lv_aload_n cn.1 cn.2.1 dX3_init_29 rfl (lv_at hl 1 rfl) ?_
  refine n_get cn hn 3 0 11 rfl zin_3 (by decide) (by decide) (show kt 10 = 3 + 3 from by decide) (by omega) (Or.inl rfl) (by rfl) fl_X3_11 dX3_init_30 ?_
  refine lv_iload_n cn.1 cn.2.1 dX3_init_33 rfl (lv_at hl 0 rfl) ?_
  refine n_new cn hn tyX0 tyX0_ok rfl zin_0 (show kt 13 = 0 + 3 from by decide) rfl (nd_0 B _ (by decide)) (hfn_all _) cl_X3_9 in_X0.1 in_X0.2 (by decide) (by decide) dX3_init_34 (fun H hn => ?_)
  refine lv_dup cn.1 cn.2.1 dX3_init_37 rfl ?_
  refine n_run (As := []) (rest := [.ref (B + 13), .int (ii 0), .ref (B + 11)]) (mc := 3) (ms := 205) cn hn (kX0_init l g B _ 13 (by decide)) iw_X0_init (Or.inr ni_X3_21) ⟨by decide, by decide⟩ ⟨by decide, by decide⟩ rfl hl.1 rfl (Nat.le_of_ble_eq_true rfl) dX3_init_38 (fun H locs hn => ?_)
  refine n_aast cn hn (by decide) (Or.inl ⟨rfl, rfl, rfl⟩) (show kt 11 = 1 from by decide) (by omega) (show kt 13 = 0 + 3 from by decide) (by omega) (by decide) (by decide) dX3_init_41 (fun H locs hn => ?_)
  refine lv_iinc (v := ii 1) (lv' := [(1, .int (ii 1)), (0, .ref (B + 10))]) cn.1 cn.2.1 dX3_init_42 hl (k := 0) rfl (by decide) (by decide) rfl (fun ls hl => ?_)
  refine lv_goto (tgt := 23) cn.1 cn.2.1 dX3_init_45 (by rfl) ?_
  refine lv_iload_n cn.1 cn.2.1 dX3_init_23 rfl (lv_at hl 0 rfl) ?_
  refine lv_bipush (v := ii 16) cn.1 cn.2.1 dX3_init_24 (by decide) ?_
  refine lv_icmp_ge (tgt := 48) cn.1 cn.2.1 dX3_init_26 (by rfl) (fun q => absurd q (by decide)) (fun _ => ?_)
  refine lv_aload_n cn.1 cn.2.1 dX3_init_29 rfl (lv_at hl 1 rfl) ?_
  refine n_get cn hn 3 0 11 rfl zin_3 (by decide) (by decide) (show kt 10 = 3 + 3 from by decide) (by omega) (Or.inl rfl) (by rfl) fl_X3_11 dX3_init_30 ?_
  refine lv_iload_n cn.1 cn.2.1 dX3_init_33 rfl (lv_at hl 0 rfl) ?_
  refine n_new cn hn tyX0 tyX0_ok rfl zin_0 (show kt 17 = 0 + 3 from by decide) rfl (nd_0 B _ (by decide)) (hfn_all _) cl_X3_9 in_X0.1 in_X0.2 (by decide) (by decide) dX3_init_34 (fun H hn => ?_)
  refine lv_dup cn.1 cn.2.1 dX3_init_37 rfl ?_
  refine n_run (As := []) (rest := [.ref (B + 17), .int (ii 1), .ref (B + 11)]) (mc := 3) (ms := 205) cn hn (kX0_init l g B _ 17 (by decide)) iw_X0_init (Or.inr ni_X3_21) ⟨by decide, by decide⟩ ⟨by decide, by decide⟩ rfl hl.1 rfl (Nat.le_of_ble_eq_true rfl) dX3_init_38 (fun H locs hn => ?_)
  refine n_aast cn hn (by decide) (Or.inl ⟨rfl, rfl, rfl⟩) (show kt 11 = 1 from by decide) (by omega) (show kt 17 = 0 + 3 from by decide) (by omega) (by decide) (by decide) dX3_init_41 (fun H locs hn => ?_)
  refine lv_iinc (v := ii 2) (lv' := [(1, .int (ii 2)), (0, .ref (B + 10))]) cn.1 cn.2.1 dX3_init_42 hl (k := 0) rfl (by decide) (by decide) rfl (fun ls hl => ?_)
  refine lv_goto (tgt := 23) cn.1 cn.2.1 dX3_init_45 (by rfl) ?_
  refine lv_iload_n cn.1 cn.2.1 dX3_init_23 rfl (lv_at hl 0 rfl) ?_
  refine lv_bipush (v := ii 16) cn.1 cn.2.1 dX3_init_24 (by decide) ?_
  refine lv_icmp_ge (tgt := 48) cn.1 cn.2.1 dX3_init_26 (by rfl) (fun q => absurd q (by decide)) (fun _ => ?_)
  refine lv_aload_n cn.1 cn.2.1 dX3_init_29 rfl (lv_at hl 1 rfl) ?_
  refine n_get cn hn 3 0 11 rfl zin_3 (by decide) (by decide) (show kt 10 = 3 + 3 from by decide) (by omega) (Or.inl rfl) (by rfl) fl_X3_11 dX3_init_30 ?_
  refine lv_iload_n cn.1 cn.2.1 dX3_init_33 rfl (lv_at hl 0 rfl) ?_
  refine n_new cn hn tyX0 tyX0_ok rfl zin_0 (show kt 21 = 0 + 3 from by decide) rfl (nd_0 B _ (by decide)) (hfn_all _) cl_X3_9 in_X0.1 in_X0.2 (by decide) (by decide) dX3_init_34 (fun H hn => ?_)
  refine lv_dup cn.1 cn.2.1 dX3_init_37 rfl ?_
  refine n_run (As := []) (rest := [.ref (B + 21), .int (ii 2), .ref (B + 11)]) (mc := 3) (ms := 205) cn hn (kX0_init l g B _ 21 (by decide)) iw_X0_init (Or.inr ni_X3_21) ⟨by decide, by decide⟩ ⟨by decide, by decide⟩ rfl hl.1 rfl (Nat.le_of_ble_eq_true rfl) dX3_init_38 (fun H locs hn => ?_)
  refine n_aast cn hn (by decide) (Or.inl ⟨rfl, rfl, rfl⟩) (show kt 11 = 1 from by decide) (by omega) (show kt 21 = 0 + 3 from by decide) (by omega) (by decide) (by decide) dX3_init_41 (fun H locs hn => ?_)
  refine lv_iinc (v := ii 3) (lv' := [(1, .int (ii 3)), (0, .ref (B + 10))]) cn.1 cn.2.1 dX3_init_42 hl (k := 0) rfl (by decide) (by decide) rfl (fun ls hl => ?_)
  refine lv_goto (tgt := 23) cn.1 cn.2.1 dX3_init_45 (by rfl) ?_
  refine lv_iload_n cn.1 cn.2.1 dX3_init_23 rfl (lv_at hl 0 rfl) ?_
  refine lv_bipush (v := ii 16) cn.1 cn.2.1 dX3_init_24 (by decide) ?_
  refine lv_icmp_ge (tgt := 48) cn.1 cn.2.1 dX3_init_26 (by rfl) (fun q => absurd q (by decide)) (fun _ => ?_)
  refine lv_aload_n cn.1 cn.2.1 dX3_init_29 rfl (lv_at hl 1 rfl) ?_
  refine n_get cn hn 3 0 11 rfl zin_3 (by decide) (by decide) (show kt 10 = 3 + 3 from by decide) (by omega) (Or.inl rfl) (by rfl) fl_X3_11 dX3_init_30 ?_
  refine lv_iload_n cn.1 cn.2.1 dX3_init_33 rfl (lv_at hl 0 rfl) ?_
  refine n_new cn hn tyX0 tyX0_ok rfl zin_0 (show kt 25 = 0 + 3 from by decide) rfl (nd_0 B _ (by decide)) (hfn_all _) cl_X3_9 in_X0.1 in_X0.2 (by decide) (by decide) dX3_init_34 (fun H hn => ?_)
  refine lv_dup cn.1 cn.2.1 dX3_init_37 rfl ?_
  refine n_run (As := []) (rest := [.ref (B + 25), .int (ii 3), .ref (B + 11)]) (mc := 3) (ms := 205) cn hn (kX0_init l g B _ 25 (by decide)) iw_X0_init (Or.inr ni_X3_21) ⟨by decide, by decide⟩ ⟨by decide, by decide⟩ rfl hl.1 rfl (Nat.le_of_ble_eq_true rfl) dX3_init_38 (fun H locs hn => ?_)
  refine n_aast cn hn (by decide) (Or.inl ⟨rfl, rfl, rfl⟩) (show kt 11 = 1 from by decide) (by omega) (show kt 25 = 0 + 3 from by decide) (by omega) (by decide) (by decide) dX3_init_41 (fun H locs hn => ?_)
  refine lv_iinc (v := ii 4) (lv' := [(1, .int (ii 4)), (0, .ref (B + 10))]) cn.1 cn.2.1 dX3_init_42 hl (k := 0) rfl (by decide) (by decide) rfl (fun ls hl => ?_)
  refine lv_goto (tgt := 23) cn.1 cn.2.1 dX3_init_45 (by rfl) ?_
  refine lv_iload_n cn.1 cn.2.1 dX3_init_23 rfl (lv_at hl 0 rfl) ?_
  refine lv_bipush (v := ii 16) cn.1 cn.2.1 dX3_init_24 (by decide) ?_
  refine lv_icmp_ge (tgt := 48) cn.1 cn.2.1 dX3_init_26 (by rfl) (fun q => absurd q (by decide)) (fun _ => ?_)
  refine lv_aload_n cn.1 cn.2.1 dX3_init_29 rfl (lv_at hl 1 rfl) ?_
  refine n_get cn hn 3 0 11 rfl zin_3 (by decide) (by decide) (show kt 10 = 3 + 3 from by decide) (by omega) (Or.inl rfl) (by rfl) fl_X3_11 dX3_init_30 ?_
  refine lv_iload_n cn.1 cn.2.1 dX3_init_33 rfl (lv_at hl 0 rfl) ?_
  refine n_new cn hn tyX0 tyX0_ok rfl zin_0 (show kt 29 = 0 + 3 from by decide) rfl (nd_0 B _ (by decide)) (hfn_all _) cl_X3_9 in_X0.1 in_X0.2 (by decide) (by decide) dX3_init_34 (fun H hn => ?_)
  refine lv_dup cn.1 cn.2.1 dX3_init_37 rfl ?_
  refine n_run (As := []) (rest := [.ref (B + 29), .int (ii 4), .ref (B + 11)]) (mc := 3) (ms := 205) cn hn (kX0_init l g B _ 29 (by decide)) iw_X0_init (Or.inr ni_X3_21) ⟨by decide, by decide⟩ ⟨by decide, by decide⟩ rfl hl.1 rfl (Nat.le_of_ble_eq_true rfl) dX3_init_38 (fun H locs hn => ?_)
  refine n_aast cn hn (by decide) (Or.inl ⟨rfl, rfl, rfl⟩) (show kt 11 = 1 from by decide) (by omega) (show kt 29 = 0 + 3 from by decide) (by omega) (by decide) (by decide) dX3_init_41 (fun H locs hn => ?_)
  refine lv_iinc (v := ii 5) (lv' := [(1, .int (ii 5)), (0, .ref (B + 10))]) cn.1 cn.2.1 dX3_init_42 hl (k := 0) rfl (by decide) (by decide) rfl (fun ls hl => ?_)
  refine lv_goto (tgt := 23) cn.1 cn.2.1 dX3_init_45 (by rfl) ?_
  refine lv_iload_n cn.1 cn.2.1 dX3_init_23 rfl (lv_at hl 0 rfl) ?_
  refine lv_bipush (v := ii 16) cn.1 cn.2.1 dX3_init_24 (by decide) ?_
  refine lv_icmp_ge (tgt := 48) cn.1 cn.2.1 dX3_init_26 (by rfl) (fun q => absurd q (by decide)) (fun _ => ?_)
  refine lv_aload_n cn.1 cn.2.1 dX3_init_29 rfl (lv_at hl 1 rfl) ?_
  refine n_get cn hn 3 0 11 rfl zin_3 (by decide) (by decide) (show kt 10 = 3 + 3 from by decide) (by omega) (Or.inl rfl) (by rfl) fl_X3_11 dX3_init_30 ?_
  refine lv_iload_n cn.1 cn.2.1 dX3_init_33 rfl (lv_at hl 0 rfl) ?_
  refine n_new cn hn tyX0 tyX0_ok rfl zin_0 (show kt 33 = 0 + 3 from by decide) rfl (nd_0 B _ (by decide)) (hfn_all _) cl_X3_9 in_X0.1 in_X0.2 (by decide) (by decide) dX3_init_34 (fun H hn => ?_)
  refine lv_dup cn.1 cn.2.1 dX3_init_37 rfl ?_
  refine n_run (As := []) (rest := [.ref (B + 33), .int (ii 5), .ref (B + 11)]) (mc := 3) (ms := 205) cn hn (kX0_init l g B _ 33 (by decide)) iw_X0_init (Or.inr ni_X3_21) ⟨by decide, by decide⟩ ⟨by decide, by decide⟩ rfl hl.1 rfl (Nat.le_of_ble_eq_true rfl) dX3_init_38 (fun H locs hn => ?_)
  refine n_aast cn hn (by decide) (Or.inl ⟨rfl, rfl, rfl⟩) (show kt 11 = 1 from by decide) (by omega) (show kt 33 = 0 + 3 from by decide) (by omega) (by decide) (by decide) dX3_init_41 (fun H locs hn => ?_)
  refine lv_iinc (v := ii 6) (lv' := [(1, .int (ii 6)), (0, .ref (B + 10))]) cn.1 cn.2.1 dX3_init_42 hl (k := 0) rfl (by decide) (by decide) rfl (fun ls hl => ?_)
  refine lv_goto (tgt := 23) cn.1 cn.2.1 dX3_init_45 (by rfl) ?_
  refine lv_iload_n cn.1 cn.2.1 dX3_init_23 rfl (lv_at hl 0 rfl) ?_
  refine lv_bipush (v := ii 16) cn.1 cn.2.1 dX3_init_24 (by decide) ?_
  refine lv_icmp_ge (tgt := 48) cn.1 cn.2.1 dX3_init_26 (by rfl) (fun q => absurd q (by decide)) (fun _ => ?_)
  refine lv_aload_n cn.1 cn.2.1 dX3_init_29 rfl (lv_at hl 1 rfl) ?_
  refine n_get cn hn 3 0 11 rfl zin_3 (by decide) (by decide) (show kt 10 = 3 + 3 from by decide) (by omega) (Or.inl rfl) (by rfl) fl_X3_11 dX3_init_30 ?_
  refine lv_iload_n cn.1 cn.2.1 dX3_init_33 rfl (lv_at hl 0 rfl) ?_
  refine n_new cn hn tyX0 tyX0_ok rfl zin_0 (show kt 37 = 0 + 3 from by decide) rfl (nd_0 B _ (by decide)) (hfn_all _) cl_X3_9 in_X0.1 in_X0.2 (by decide) (by decide) dX3_init_34 (fun H hn => ?_)
  refine lv_dup cn.1 cn.2.1 dX3_init_37 rfl ?_
  refine n_run (As := []) (rest := [.ref (B + 37), .int (ii 6), .ref (B + 11)]) (mc := 3) (ms := 205) cn hn (kX0_init l g B _ 37 (by decide)) iw_X0_init (Or.inr ni_X3_21) ⟨by decide, by decide⟩ ⟨by decide, by decide⟩ rfl hl.1 rfl (Nat.le_of_ble_eq_true rfl) dX3_init_38 (fun H locs hn => ?_)
  refine n_aast cn hn (by decide) (Or.inl ⟨rfl, rfl, rfl⟩) (show kt 11 = 1 from by decide) (by omega) (show kt 37 = 0 + 3 from by decide) (by omega) (by decide) (by decide) dX3_init_41 (fun H locs hn => ?_)
  refine lv_iinc (v := ii 7) (lv' := [(1, .int (ii 7)), (0, .ref (B + 10))]) cn.1 cn.2.1 dX3_init_42 hl (k := 0) rfl (by decide) (by decide) rfl (fun ls hl => ?_)
  refine lv_goto (tgt := 23) cn.1 cn.2.1 dX3_init_45 (by rfl) ?_
  refine lv_iload_n cn.1 cn.2.1 dX3_init_23 rfl (lv_at hl 0 rfl) ?_
  refine lv_bipush (v := ii 16) cn.1 cn.2.1 dX3_init_24 (by decide) ?_
  refine lv_icmp_ge (tgt := 48) cn.1 cn.2.1 dX3_init_26 (by rfl) (fun q => absurd q (by decide)) (fun _ => ?_)
  refine lv_aload_n cn.1 cn.2.1 dX3_init_29 rfl (lv_at hl 1 rfl) ?_
  refine n_get cn hn 3 0 11 rfl zin_3 (by decide) (by decide) (show kt 10 = 3 + 3 from by decide) (by omega) (Or.inl rfl) (by rfl) fl_X3_11 dX3_init_30 ?_
  refine lv_iload_n cn.1 cn.2.1 dX3_init_33 rfl (lv_at hl 0 rfl) ?_
  refine n_new cn hn tyX0 tyX0_ok rfl zin_0 (show kt 41 = 0 + 3 from by decide) rfl (nd_0 B _ (by decide)) (hfn_all _) cl_X3_9 in_X0.1 in_X0.2 (by decide) (by decide) dX3_init_34 (fun H hn => ?_)
  refine lv_dup cn.1 cn.2.1 dX3_init_37 rfl ?_
  refine n_run (As := []) (rest := [.ref (B + 41), .int (ii 7), .ref (B + 11)]) (mc := 3) (ms := 205) cn hn (kX0_init l g B _ 41 (by decide)) iw_X0_init (Or.inr ni_X3_21) ⟨by decide, by decide⟩ ⟨by decide, by decide⟩ rfl hl.1 rfl (Nat.le_of_ble_eq_true rfl) dX3_init_38 (fun H locs hn => ?_)
  refine n_aast cn hn (by decide) (Or.inl ⟨rfl, rfl, rfl⟩) (show kt 11 = 1 from by decide) (by omega) (show kt 41 = 0 + 3 from by decide) (by omega) (by decide) (by decide) dX3_init_41 (fun H locs hn => ?_)
  refine lv_iinc (v := ii 8) (lv' := [(1, .int (ii 8)), (0, .ref (B + 10))]) cn.1 cn.2.1 dX3_init_42 hl (k := 0) rfl (by decide) (by decide) rfl (fun ls hl => ?_)
  refine lv_goto (tgt := 23) cn.1 cn.2.1 dX3_init_45 (by rfl) ?_
  refine lv_iload_n cn.1 cn.2.1 dX3_init_23 rfl (lv_at hl 0 rfl) ?_
  refine lv_bipush (v := ii 16) cn.1 cn.2.1 dX3_init_24 (by decide) ?_
  refine lv_icmp_ge (tgt := 48) cn.1 cn.2.1 dX3_init_26 (by rfl) (fun q => absurd q (by decide)) (fun _ => ?_)
  refine lv_aload_n cn.1 cn.2.1 dX3_init_29 rfl (lv_at hl 1 rfl) ?_
  refine n_get cn hn 3 0 11 rfl zin_3 (by decide) (by decide) (show kt 10 = 3 + 3 from by decide) (by omega) (Or.inl rfl) (by rfl) fl_X3_11 dX3_init_30 ?_
  refine lv_iload_n cn.1 cn.2.1 dX3_init_33 rfl (lv_at hl 0 rfl) ?_
  refine n_new cn hn tyX0 tyX0_ok rfl zin_0 (show kt 45 = 0 + 3 from by decide) rfl (nd_0 B _ (by decide)) (hfn_all _) cl_X3_9 in_X0.1 in_X0.2 (by decide) (by decide) dX3_init_34 (fun H hn => ?_)
  refine lv_dup cn.1 cn.2.1 dX3_init_37 rfl ?_
  refine n_run (As := []) (rest := [.ref (B + 45), .int (ii 8), .ref (B + 11)]) (mc := 3) (ms := 205) cn hn (kX0_init l g B _ 45 (by decide)) iw_X0_init (Or.inr ni_X3_21) ⟨by decide, by decide⟩ ⟨by decide, by decide⟩ rfl hl.1 rfl (Nat.le_of_ble_eq_true rfl) dX3_init_38 (fun H locs hn => ?_)
  refine n_aast cn hn (by decide) (Or.inl ⟨rfl, rfl, rfl⟩) (show kt 11 = 1 from by decide) (by omega) (show kt 45 = 0 + 3 from by decide) (by omega) (by decide) (by decide) dX3_init_41 (fun H locs hn => ?_)
  refine lv_iinc (v := ii 9) (lv' := [(1, .int (ii 9)), (0, .ref (B + 10))]) cn.1 cn.2.1 dX3_init_42 hl (k := 0) rfl (by decide) (by decide) rfl (fun ls hl => ?_)
  refine lv_goto (tgt := 23) cn.1 cn.2.1 dX3_init_45 (by rfl) ?_
  refine lv_iload_n cn.1 cn.2.1 dX3_init_23 rfl (lv_at hl 0 rfl) ?_
  refine lv_bipush (v := ii 16) cn.1 cn.2.1 dX3_init_24 (by decide) ?_
  refine lv_icmp_ge (tgt := 48) cn.1 cn.2.1 dX3_init_26 (by rfl) (fun q => absurd q (by decide)) (fun _ => ?_)
  refine lv_aload_n cn.1 cn.2.1 dX3_init_29 rfl (lv_at hl 1 rfl) ?_
  refine n_get cn hn 3 0 11 rfl zin_3 (by decide) (by decide) (show kt 10 = 3 + 3 from by decide) (by omega) (Or.inl rfl) (by rfl) fl_X3_11 dX3_init_30 ?_
  refine lv_iload_n cn.1 cn.2.1 dX3_init_33 rfl (lv_at hl 0 rfl) ?_
  refine n_new cn hn tyX0 tyX0_ok rfl zin_0 (show kt 49 = 0 + 3 from by decide) rfl (nd_0 B _ (by decide)) (hfn_all _) cl_X3_9 in_X0.1 in_X0.2 (by decide) (by decide) dX3_init_34 (fun H hn => ?_)
  refine lv_dup cn.1 cn.2.1 dX3_init_37 rfl ?_
  refine n_run (As := []) (rest := [.ref (B + 49), .int (ii 9), .ref (B + 11)]) (mc := 3) (ms := 205) cn hn (kX0_init l g B _ 49 (by decide)) iw_X0_init (Or.inr ni_X3_21) ⟨by decide, by decide⟩ ⟨by decide, by decide⟩ rfl hl.1 rfl (Nat.le_of_ble_eq_true rfl) dX3_init_38 (fun H locs hn => ?_)
  refine n_aast cn hn (by decide) (Or.inl ⟨rfl, rfl, rfl⟩) (show kt 11 = 1 from by decide) (by omega) (show kt 49 = 0 + 3 from by decide) (by omega) (by decide) (by decide) dX3_init_41 (fun H locs hn => ?_)
  refine lv_iinc (v := ii 10) (lv' := [(1, .int (ii 10)), (0, .ref (B + 10))]) cn.1 cn.2.1 dX3_init_42 hl (k := 0) rfl (by decide) (by decide) rfl (fun ls hl => ?_)
  refine lv_goto (tgt := 23) cn.1 cn.2.1 dX3_init_45 (by rfl) ?_
  refine lv_iload_n cn.1 cn.2.1 dX3_init_23 rfl (lv_at hl 0 rfl) ?_
  refine lv_bipush (v := ii 16) cn.1 cn.2.1 dX3_init_24 (by decide) ?_
  refine lv_icmp_ge (tgt := 48) cn.1 cn.2.1 dX3_init_26 (by rfl) (fun q => absurd q (by decide)) (fun _ => ?_)
  refine lv_aload_n cn.1 cn.2.1 dX3_init_29 rfl (lv_at hl 1 rfl) ?_
  refine n_get cn hn 3 0 11 rfl zin_3 (by decide) (by decide) (show kt 10 = 3 + 3 from by decide) (by omega) (Or.inl rfl) (by rfl) fl_X3_11 dX3_init_30 ?_
  refine lv_iload_n cn.1 cn.2.1 dX3_init_33 rfl (lv_at hl 0 rfl) ?_
  refine n_new cn hn tyX0 tyX0_ok rfl zin_0 (show kt 53 = 0 + 3 from by decide) rfl (nd_0 B _ (by decide)) (hfn_all _) cl_X3_9 in_X0.1 in_X0.2 (by decide) (by decide) dX3_init_34 (fun H hn => ?_)
  refine lv_dup cn.1 cn.2.1 dX3_init_37 rfl ?_
  refine n_run (As := []) (rest := [.ref (B + 53), .int (ii 10), .ref (B + 11)]) (mc := 3) (ms := 205) cn hn (kX0_init l g B _ 53 (by decide)) iw_X0_init (Or.inr ni_X3_21) ⟨by decide, by decide⟩ ⟨by decide, by decide⟩ rfl hl.1 rfl (Nat.le_of_ble_eq_true rfl) dX3_init_38 (fun H locs hn => ?_)
  refine n_aast cn hn (by decide) (Or.inl ⟨rfl, rfl, rfl⟩) (show kt 11 = 1 from by decide) (by omega) (show kt 53 = 0 + 3 from by decide) (by omega) (by decide) (by decide) dX3_init_41 (fun H locs hn => ?_)
  refine lv_iinc (v := ii 11) (lv' := [(1, .int (ii 11)), (0, .ref (B + 10))]) cn.1 cn.2.1 dX3_init_42 hl (k := 0) rfl (by decide) (by decide) rfl (fun ls hl => ?_)
  refine lv_goto (tgt := 23) cn.1 cn.2.1 dX3_init_45 (by rfl) ?_
  refine lv_iload_n cn.1 cn.2.1 dX3_init_23 rfl (lv_at hl 0 rfl) ?_
  refine lv_bipush (v := ii 16) cn.1 cn.2.1 dX3_init_24 (by decide) ?_
  refine lv_icmp_ge (tgt := 48) cn.1 cn.2.1 dX3_init_26 (by rfl) (fun q => absurd q (by decide)) (fun _ => ?_)
  refine lv_aload_n cn.1 cn.2.1 dX3_init_29 rfl (lv_at hl 1 rfl) ?_
  refine n_get cn hn 3 0 11 rfl zin_3 (by decide) (by decide) (show kt 10 = 3 + 3 from by decide) (by omega) (Or.inl rfl) (by rfl) fl_X3_11 dX3_init_30 ?_
  refine lv_iload_n cn.1 cn.2.1 dX3_init_33 rfl (lv_at hl 0 rfl) ?_
  refine n_new cn hn tyX0 tyX0_ok rfl zin_0 (show kt 57 = 0 + 3 from by decide) rfl (nd_0 B _ (by decide)) (hfn_all _) cl_X3_9 in_X0.1 in_X0.2 (by decide) (by decide) dX3_init_34 (fun H hn => ?_)
  refine lv_dup cn.1 cn.2.1 dX3_init_37 rfl ?_
  refine n_run (As := []) (rest := [.ref (B + 57), .int (ii 11), .ref (B + 11)]) (mc := 3) (ms := 205) cn hn (kX0_init l g B _ 57 (by decide)) iw_X0_init (Or.inr ni_X3_21) ⟨by decide, by decide⟩ ⟨by decide, by decide⟩ rfl hl.1 rfl (Nat.le_of_ble_eq_true rfl) dX3_init_38 (fun H locs hn => ?_)
  refine n_aast cn hn (by decide) (Or.inl ⟨rfl, rfl, rfl⟩) (show kt 11 = 1 from by decide) (by omega) (show kt 57 = 0 + 3 from by decide) (by omega) (by decide) (by decide) dX3_init_41 (fun H locs hn => ?_)
  refine lv_iinc (v := ii 12) (lv' := [(1, .int (ii 12)), (0, .ref (B + 10))]) cn.1 cn.2.1 dX3_init_42 hl (k := 0) rfl (by decide) (by decide) rfl (fun ls hl => ?_)
  refine lv_goto (tgt := 23) cn.1 cn.2.1 dX3_init_45 (by rfl) ?_
  refine lv_iload_n cn.1 cn.2.1 dX3_init_23 rfl (lv_at hl 0 rfl) ?_
  refine lv_bipush (v := ii 16) cn.1 cn.2.1 dX3_init_24 (by decide) ?_
  refine lv_icmp_ge (tgt := 48) cn.1 cn.2.1 dX3_init_26 (by rfl) (fun q => absurd q (by decide)) (fun _ => ?_)
  refine lv_aload_n cn.1 cn.2.1 dX3_init_29 rfl (lv_at hl 1 rfl) ?_
  refine n_get cn hn 3 0 11 rfl zin_3 (by decide) (by decide) (show kt 10 = 3 + 3 from by decide) (by omega) (Or.inl rfl) (by rfl) fl_X3_11 dX3_init_30 ?_
  refine lv_iload_n cn.1 cn.2.1 dX3_init_33 rfl (lv_at hl 0 rfl) ?_
  refine n_new cn hn tyX0 tyX0_ok rfl zin_0 (show kt 61 = 0 + 3 from by decide) rfl (nd_0 B _ (by decide)) (hfn_all _) cl_X3_9 in_X0.1 in_X0.2 (by decide) (by decide) dX3_init_34 (fun H hn => ?_)
  refine lv_dup cn.1 cn.2.1 dX3_init_37 rfl ?_
  refine n_run (As := []) (rest := [.ref (B + 61), .int (ii 12), .ref (B + 11)]) (mc := 3) (ms := 205) cn hn (kX0_init l g B _ 61 (by decide)) iw_X0_init (Or.inr ni_X3_21) ⟨by decide, by decide⟩ ⟨by decide, by decide⟩ rfl hl.1 rfl (Nat.le_of_ble_eq_true rfl) dX3_init_38 (fun H locs hn => ?_)
  refine n_aast cn hn (by decide) (Or.inl ⟨rfl, rfl, rfl⟩) (show kt 11 = 1 from by decide) (by omega) (show kt 61 = 0 + 3 from by decide) (by omega) (by decide) (by decide) dX3_init_41 (fun H locs hn => ?_)
  refine lv_iinc (v := ii 13) (lv' := [(1, .int (ii 13)), (0, .ref (B + 10))]) cn.1 cn.2.1 dX3_init_42 hl (k := 0) rfl (by decide) (by decide) rfl (fun ls hl => ?_)
  refine lv_goto (tgt := 23) cn.1 cn.2.1 dX3_init_45 (by rfl) ?_
  refine lv_iload_n cn.1 cn.2.1 dX3_init_23 rfl (lv_at hl 0 rfl) ?_
  refine lv_bipush (v := ii 16) cn.1 cn.2.1 dX3_init_24 (by decide) ?_
  refine lv_icmp_ge (tgt := 48) cn.1 cn.2.1 dX3_init_26 (by rfl) (fun q => absurd q (by decide)) (fun _ => ?_)
  refine lv_aload_n cn.1 cn.2.1 dX3_init_29 rfl (lv_at hl 1 rfl) ?_
  refine n_get cn hn 3 0 11 rfl zin_3 (by decide) (by decide) (show kt 10 = 3 + 3 from by decide) (by omega) (Or.inl rfl) (by rfl) fl_X3_11 dX3_init_30 ?_
  refine lv_iload_n cn.1 cn.2.1 dX3_init_33 rfl (lv_at hl 0 rfl) ?_
  refine n_new cn hn tyX0 tyX0_ok rfl zin_0 (show kt 65 = 0 + 3 from by decide) rfl (nd_0 B _ (by decide)) (hfn_all _) cl_X3_9 in_X0.1 in_X0.2 (by decide) (by decide) dX3_init_34 (fun H hn => ?_)
  refine lv_dup cn.1 cn.2.1 dX3_init_37 rfl ?_
  refine n_run (As := []) (rest := [.ref (B + 65), .int (ii 13), .ref (B + 11)]) (mc := 3) (ms := 205) cn hn (kX0_init l g B _ 65 (by decide)) iw_X0_init (Or.inr ni_X3_21) ⟨by decide, by decide⟩ ⟨by decide, by decide⟩ rfl hl.1 rfl (Nat.le_of_ble_eq_true rfl) dX3_init_38 (fun H locs hn => ?_)
  refine n_aast cn hn (by decide) (Or.inl ⟨rfl, rfl, rfl⟩) (show kt 11 = 1 from by decide) (by omega) (show kt 65 = 0 + 3 from by decide) (by omega) (by decide) (by decide) dX3_init_41 (fun H locs hn => ?_)
  refine lv_iinc (v := ii 14) (lv' := [(1, .int (ii 14)), (0, .ref (B + 10))]) cn.1 cn.2.1 dX3_init_42 hl (k := 0) rfl (by decide) (by decide) rfl (fun ls hl => ?_)
  refine lv_goto (tgt := 23) cn.1 cn.2.1 dX3_init_45 (by rfl) ?_
  refine lv_iload_n cn.1 cn.2.1 dX3_init_23 rfl (lv_at hl 0 rfl) ?_
  refine lv_bipush (v := ii 16) cn.1 cn.2.1 dX3_init_24 (by decide) ?_
  refine lv_icmp_ge (tgt := 48) cn.1 cn.2.1 dX3_init_26 (by rfl) (fun q => absurd q (by decide)) (fun _ => ?_)
  refine lv_aload_n cn.1 cn.2.1 dX3_init_29 rfl (lv_at hl 1 rfl) ?_
  refine n_get cn hn 3 0 11 rfl zin_3 (by decide) (by decide) (show kt 10 = 3 + 3 from by decide) (by omega) (Or.inl rfl) (by rfl) fl_X3_11 dX3_init_30 ?_
  refine lv_iload_n cn.1 cn.2.1 dX3_init_33 rfl (lv_at hl 0 rfl) ?_
  refine n_new cn hn tyX0 tyX0_ok rfl zin_0 (show kt 69 = 0 + 3 from by decide) rfl (nd_0 B _ (by decide)) (hfn_all _) cl_X3_9 in_X0.1 in_X0.2 (by decide) (by decide) dX3_init_34 (fun H hn => ?_)
  refine lv_dup cn.1 cn.2.1 dX3_init_37 rfl ?_
  refine n_run (As := []) (rest := [.ref (B + 69), .int (ii 14), .ref (B + 11)]) (mc := 3) (ms := 205) cn hn (kX0_init l g B _ 69 (by decide)) iw_X0_init (Or.inr ni_X3_21) ⟨by decide, by decide⟩ ⟨by decide, by decide⟩ rfl hl.1 rfl (Nat.le_of_ble_eq_true rfl) dX3_init_38 (fun H locs hn => ?_)
  refine n_aast cn hn (by decide) (Or.inl ⟨rfl, rfl, rfl⟩) (show kt 11 = 1 from by decide) (by omega) (show kt 69 = 0 + 3 from by decide) (by omega) (by decide) (by decide) dX3_init_41 (fun H locs hn => ?_)
  refine lv_iinc (v := ii 15) (lv' := [(1, .int (ii 15)), (0, .ref (B + 10))]) cn.1 cn.2.1 dX3_init_42 hl (k := 0) rfl (by decide) (by decide) rfl (fun ls hl => ?_)
  refine lv_goto (tgt := 23) cn.1 cn.2.1 dX3_init_45 (by rfl) ?_
  refine lv_iload_n cn.1 cn.2.1 dX3_init_23 rfl (lv_at hl 0 rfl) ?_
  refine lv_bipush (v := ii 16) cn.1 cn.2.1 dX3_init_24 (by decide) ?_
  refine lv_icmp_ge (tgt := 48) cn.1 cn.2.1 dX3_init_26 (by rfl) (fun q => absurd q (by decide)) (fun _ => ?_)
  refine lv_aload_n cn.1 cn.2.1 dX3_init_29 rfl (lv_at hl 1 rfl) ?_
  refine n_get cn hn 3 0 11 rfl zin_3 (by decide) (by decide) (show kt 10 = 3 + 3 from by decide) (by omega) (Or.inl rfl) (by rfl) fl_X3_11 dX3_init_30 ?_
  refine lv_iload_n cn.1 cn.2.1 dX3_init_33 rfl (lv_at hl 0 rfl) ?_
  refine n_new cn hn tyX0 tyX0_ok rfl zin_0 (show kt 73 = 0 + 3 from by decide) rfl (nd_0 B _ (by decide)) (hfn_all _) cl_X3_9 in_X0.1 in_X0.2 (by decide) (by decide) dX3_init_34 (fun H hn => ?_)
  refine lv_dup cn.1 cn.2.1 dX3_init_37 rfl ?_
  refine n_run (As := []) (rest := [.ref (B + 73), .int (ii 15), .ref (B + 11)]) (mc := 3) (ms := 205) cn hn (kX0_init l g B _ 73 (by decide)) iw_X0_init (Or.inr ni_X3_21) ⟨by decide, by decide⟩ ⟨by decide, by decide⟩ rfl hl.1 rfl (Nat.le_of_ble_eq_true rfl) dX3_init_38 (fun H locs hn => ?_)
  refine n_aast cn hn (by decide) (Or.inl ⟨rfl, rfl, rfl⟩) (show kt 11 = 1 from by decide) (by omega) (show kt 73 = 0 + 3 from by decide) (by omega) (by decide) (by decide) dX3_init_41 (fun H locs hn => ?_)
  refine lv_iinc (v := ii 16) (lv' := [(1, .int (ii 16)), (0, .ref (B + 10))]) cn.1 cn.2.1 dX3_init_42 hl (k := 0) rfl (by decide) (by decide) rfl (fun ls hl => ?_)
  refine lv_goto (tgt := 23) cn.1 cn.2.1 dX3_init_45 (by rfl) ?_
  refine lv_iload_n cn.1 cn.2.1 dX3_init_23 rfl (lv_at hl 0 rfl) ?_
  refine lv_bipush (v := ii 16) cn.1 cn.2.1 dX3_init_24 (by decide) ?_
  refine lv_icmp_ge (tgt := 48) cn.1 cn.2.1 dX3_init_26 (by rfl) (fun _ => ?_) (fun q => absurd (by decide) q)
  refine W.widen (k := 66) (n := 3408) (by omega) (by decide) ?_
  refine n_vret (n0 := 10 + 1) cn hn rfl (he_gen ?_ ?_) dX3_init_48
  · intro c k hc
    refine (if_neg (by omega)).trans ?_
    refine (if_pos (by omega)).trans ?_
    refine (if_neg (by omega)).trans ?_
    refine (if_pos (by omega)).trans ?_
    refine (if_neg (by omega)).trans ?_
    refine (if_pos (by omega)).trans ?_
    refine (if_neg (by omega)).trans ?_
    refine (if_pos (by omega)).trans ?_
    refine (if_neg (by omega)).trans ?_
    refine (if_pos (by omega)).trans ?_
    refine (if_neg (by omega)).trans ?_
    refine (if_pos (by omega)).trans ?_
    refine (if_neg (by omega)).trans ?_
    refine (if_pos (by omega)).trans ?_
    refine (if_neg (by omega)).trans ?_
    refine (if_pos (by omega)).trans ?_
    refine (if_neg (by omega)).trans ?_
    refine (if_pos (by omega)).trans ?_
    refine (if_neg (by omega)).trans ?_
    refine (if_pos (by omega)).trans ?_
    refine (if_neg (by omega)).trans ?_
    refine (if_pos (by omega)).trans ?_
    refine (if_neg (by omega)).trans ?_
    refine (if_pos (by omega)).trans ?_
    refine (if_neg (by omega)).trans ?_
    refine (if_pos (by omega)).trans ?_
    refine (if_neg (by omega)).trans ?_
    refine (if_pos (by omega)).trans ?_
    refine (if_neg (by omega)).trans ?_
    refine (if_pos (by omega)).trans ?_
    refine (if_neg (by omega)).trans ?_
    refine (if_pos (by omega)).trans ?_
    refine (if_neg (by omega)).trans ?_
    refine (if_neg (by omega)).trans ?_
    refine (if_neg (by omega)).trans ?_
    refine (if_neg (by omega)).trans ?_
    exact if_neg (by omega)
  · intro c k h1 h2 hv
    obtain ⟨n1, hv⟩ := zlp1 hv
    obtain ⟨n2, hv⟩ := zlp3 hv
    obtain ⟨n3, hv⟩ := zlp1 hv
    obtain ⟨n4, hv⟩ := zlp3 hv
    obtain ⟨n5, hv⟩ := zlp1 hv
    obtain ⟨n6, hv⟩ := zlp3 hv
    obtain ⟨n7, hv⟩ := zlp1 hv
    obtain ⟨n8, hv⟩ := zlp3 hv
    obtain ⟨n9, hv⟩ := zlp1 hv
    obtain ⟨n10, hv⟩ := zlp3 hv
    obtain ⟨n11, hv⟩ := zlp1 hv
    obtain ⟨n12, hv⟩ := zlp3 hv
    obtain ⟨n13, hv⟩ := zlp1 hv
    obtain ⟨n14, hv⟩ := zlp3 hv
    obtain ⟨n15, hv⟩ := zlp1 hv
    obtain ⟨n16, hv⟩ := zlp3 hv
    obtain ⟨n17, hv⟩ := zlp1 hv
    obtain ⟨n18, hv⟩ := zlp3 hv
    obtain ⟨n19, hv⟩ := zlp1 hv
    obtain ⟨n20, hv⟩ := zlp3 hv
    obtain ⟨n21, hv⟩ := zlp1 hv
    obtain ⟨n22, hv⟩ := zlp3 hv
    obtain ⟨n23, hv⟩ := zlp1 hv
    obtain ⟨n24, hv⟩ := zlp3 hv
    obtain ⟨n25, hv⟩ := zlp1 hv
    obtain ⟨n26, hv⟩ := zlp3 hv
    obtain ⟨n27, hv⟩ := zlp1 hv
    obtain ⟨n28, hv⟩ := zlp3 hv
    obtain ⟨n29, hv⟩ := zlp1 hv
    obtain ⟨n30, hv⟩ := zlp3 hv
    obtain ⟨n31, hv⟩ := zlp1 hv
    obtain ⟨n32, hv⟩ := zlp3 hv
    obtain ⟨n33, hv⟩ := zlp1 hv
    obtain ⟨n34, hv⟩ := zlp1 hv
    obtain ⟨n35, hv⟩ := zlp1 hv
    rcases zlp2 hv with ⟨n36, hv⟩ | ⟨n36, hv⟩
    · exact (lfd hv (show kl 11 = 16 by decide) (lfk16 (fun z => n31 ⟨n36, z⟩) (fun z => n29 ⟨n36, z⟩) (fun z => n27 ⟨n36, z⟩) (fun z => n25 ⟨n36, z⟩) (fun z => n23 ⟨n36, z⟩) (fun z => n21 ⟨n36, z⟩) (fun z => n19 ⟨n36, z⟩) (fun z => n17 ⟨n36, z⟩) (fun z => n15 ⟨n36, z⟩) (fun z => n13 ⟨n36, z⟩) (fun z => n11 ⟨n36, z⟩) (fun z => n9 ⟨n36, z⟩) (fun z => n7 ⟨n36, z⟩) (fun z => n5 ⟨n36, z⟩) (fun z => n3 ⟨n36, z⟩) (fun z => n1 ⟨n36, z⟩))).elim
    rcases zlp2 hv with ⟨e0, hv⟩ | ⟨e0, hv⟩
    · exact lfx e0 (lf_3 10 (by decide) k ⟨(fun z => n35 ⟨e0, z⟩), (fun z => n33 ⟨e0, z⟩)⟩) hv
    · have g0 : 10 ≤ c := h1
      have g1 : 11 ≤ c := Nat.lt_of_le_of_ne g0 (fun z => e0 z.symm)
      have g2 : 12 ≤ c := Nat.lt_of_le_of_ne g1 (fun z => n36 z.symm)
      have g3 : 13 ≤ c := Nat.lt_of_le_of_ne g2 (fun z => n34 z.symm)
      exact absurd n32 (Nat.not_lt.mpr g3)
theorem dX10_init_0 : decode cX10_init 0 = .ok (.aload_n 0, 1) := by decide +kernel
theorem dX10_init_1 : decode cX10_init 1 = .ok (.invokespecial 3, 3) := by decide +kernel
theorem dX10_init_4 : decode cX10_init 4 = .ok (.aload_n 0, 1) := by decide +kernel
theorem dX10_init_5 : decode cX10_init 5 = .ok (.sipush 401, 3) := by decide +kernel
theorem dX10_init_8 : decode cX10_init 8 = .ok (.newarray .int, 2) := by decide +kernel
theorem dX10_init_10 : decode cX10_init 10 = .ok (.putfield 9, 3) := by decide +kernel
theorem dX10_init_13 : decode cX10_init 13 = .ok (.aload_n 0, 1) := by decide +kernel
theorem dX10_init_14 : decode cX10_init 14 = .ok (.sipush 401, 3) := by decide +kernel
theorem dX10_init_17 : decode cX10_init 17 = .ok (.newarray .int, 2) := by decide +kernel
theorem dX10_init_19 : decode cX10_init 19 = .ok (.putfield 15, 3) := by decide +kernel
theorem dX10_init_22 : decode cX10_init 22 = .ok (.aload_n 0, 1) := by decide +kernel
theorem dX10_init_23 : decode cX10_init 23 = .ok (.bipush 80, 2) := by decide +kernel
theorem dX10_init_25 : decode cX10_init 25 = .ok (.newarray .int, 2) := by decide +kernel
theorem dX10_init_27 : decode cX10_init 27 = .ok (.putfield 18, 3) := by decide +kernel
theorem dX10_init_30 : decode cX10_init 30 = .ok (.aload_n 0, 1) := by decide +kernel
theorem dX10_init_31 : decode cX10_init 31 = .ok (.iconst 4, 1) := by decide +kernel
theorem dX10_init_32 : decode cX10_init 32 = .ok (.newarray .int, 2) := by decide +kernel
theorem dX10_init_34 : decode cX10_init 34 = .ok (.putfield 21, 3) := by decide +kernel
theorem dX10_init_37 : decode cX10_init 37 = .ok (.return_, 1) := by decide +kernel
theorem lf_10 (a : Nat) (hk : kt a = 10 + 3) : ∀ k, (k ≠ 5 ∧ k ≠ 6 ∧ k ≠ 7 ∧ k ≠ 8) → isR a k = true → hFin a k = -1 := by
  intro k hne h
  have ha0 : a ≠ 0 := fun q => by subst q; exact absurd hk (by decide)
  have ha7 : a ≠ 77 := fun q => by subst q; exact absurd hk (by decide)
  unfold isR at h
  unfold hFin
  rw [zsk_obj hk] at h ⊢
  match k, hne, h with
  | 0, _, h => exact Bool.noConfusion h
  | 1, _, h => exact Bool.noConfusion h
  | 2, _, _ => show (if a = 0 then (78 : Int) else if a = 77 ∧ 2 < 4 then _ else -1) = -1; rw [if_neg ha0, if_neg (fun q => ha7 q.1)]
  | 3, _, h => exact Bool.noConfusion h
  | 4, _, _ => show (if a = 0 then (78 : Int) else if a = 77 ∧ 4 < 4 then _ else -1) = -1; rw [if_neg ha0, if_neg (fun q => ha7 q.1)]
  | 5, hne, _ => exact absurd hne (by omega)
  | 6, hne, _ => exact absurd hne (by omega)
  | 7, hne, _ => exact absurd hne (by omega)
  | 8, hne, _ => exact absurd hne (by omega)
  | k + 9, _, h => exact Bool.noConfusion h
set_option maxHeartbeats 8000000 in
set_option maxRecDepth 100000 in
theorem kX10_init (l : Launch) (g : zG) (B : Nat) (u : Nat → Nat → Bool) : CTn l g B yX10_init cX10_init 1 1 4 886 [.ref (B + 86)] (fun c k => if c = 86 then isR c k else u c k) (86 + 1) (fun c k => if c < 86 then u c k else false) := by
  refine n_enter (by decide) rfl rfl (Nat.le_of_ble_eq_true rfl) ?_
  intro p e s m args below meth c ls cn hn hl
  have hl : lv_has ls 1 [(0, .ref (B + 86))] := hl
  refine lv_aload_n cn.1 cn.2.1 dX10_init_0 rfl (lv_at hl 0 rfl) ?_
  refine W.objInit cn.1 cn.2.1 cn.2.2.2.1 (cn.2.2.2.2.1 _ mo_X10) (cn.2.2.2.2.1 _ zw_oi.1) (cn.2.2.2.2.1 _ zw_oi.2) rfl (hl.1.trans cn.2.2.1.symm) rfl dX10_init_1 (Nat.le_of_ble_eq_true rfl) (Nat.le_of_ble_eq_true rfl) ?_
  refine lv_aload_n cn.1 cn.2.1 dX10_init_4 rfl (lv_at hl 0 rfl) ?_
  refine lv_sipush (v := ii 401) cn.1 cn.2.1 dX10_init_5 (by decide) ?_
  refine n_newa cn hn (by decide) (show kt 87 = 0 from by decide) (by decide) (by decide) (by decide) dX10_init_8 (fun H hn => ?_)
  refine n_put cn hn tyX10 tyX10_ok nmX10 10 5 87 rfl zin_10 (by decide) (by decide) (show kt 86 = 10 + 3 from by decide) (by omega) (Or.inl rfl) (by decide) rfl (Or.inr ⟨_, rfl⟩) fl_X10_9 dX10_init_10 (fun H locs hn => ?_)
  refine lv_aload_n cn.1 cn.2.1 dX10_init_13 rfl (lv_at hl 0 rfl) ?_
  refine lv_sipush (v := ii 401) cn.1 cn.2.1 dX10_init_14 (by decide) ?_
  refine n_newa cn hn (by decide) (show kt 88 = 0 from by decide) (by decide) (by decide) (by decide) dX10_init_17 (fun H hn => ?_)
  refine n_put cn hn tyX10 tyX10_ok nmX10 10 6 88 rfl zin_10 (by decide) (by decide) (show kt 86 = 10 + 3 from by decide) (by omega) (Or.inl rfl) (by decide) rfl (Or.inr ⟨_, rfl⟩) fl_X10_15 dX10_init_19 (fun H locs hn => ?_)
  refine lv_aload_n cn.1 cn.2.1 dX10_init_22 rfl (lv_at hl 0 rfl) ?_
  refine lv_bipush (v := ii 80) cn.1 cn.2.1 dX10_init_23 (by decide) ?_
  refine n_newa cn hn (by decide) (show kt 89 = 0 from by decide) (by decide) (by decide) (by decide) dX10_init_25 (fun H hn => ?_)
  refine n_put cn hn tyX10 tyX10_ok nmX10 10 7 89 rfl zin_10 (by decide) (by decide) (show kt 86 = 10 + 3 from by decide) (by omega) (Or.inl rfl) (by decide) rfl (Or.inr ⟨_, rfl⟩) fl_X10_18 dX10_init_27 (fun H locs hn => ?_)
  refine lv_aload_n cn.1 cn.2.1 dX10_init_30 rfl (lv_at hl 0 rfl) ?_
  refine lv_iconst (v := ii 4) cn.1 cn.2.1 dX10_init_31 (by decide) ?_
  refine n_newa cn hn (by decide) (show kt 90 = 0 from by decide) (by decide) (by decide) (by decide) dX10_init_32 (fun H hn => ?_)
  refine n_put cn hn tyX10 tyX10_ok nmX10 10 8 90 rfl zin_10 (by decide) (by decide) (show kt 86 = 10 + 3 from by decide) (by omega) (Or.inl rfl) (by decide) rfl (Or.inr ⟨_, rfl⟩) fl_X10_21 dX10_init_34 (fun H locs hn => ?_)
  refine W.widen (k := 4) (n := 886) (by omega) (by decide) ?_
  refine n_vret (n0 := 86 + 1) cn hn rfl (he_gen ?_ ?_) dX10_init_37
  · intro c k hc
    refine (if_neg (by omega)).trans ?_
    refine (if_neg (by omega)).trans ?_
    refine (if_neg (by omega)).trans ?_
    refine (if_neg (by omega)).trans ?_
    refine (if_neg (by omega)).trans ?_
    refine (if_neg (by omega)).trans ?_
    refine (if_neg (by omega)).trans ?_
    refine (if_neg (by omega)).trans ?_
    exact if_neg (by omega)
  · intro c k h1 h2 hv
    obtain ⟨n1, hv⟩ := zlp1 hv
    obtain ⟨n2, hv⟩ := zlp1 hv
    obtain ⟨n3, hv⟩ := zlp1 hv
    obtain ⟨n4, hv⟩ := zlp1 hv
    obtain ⟨n5, hv⟩ := zlp1 hv
    obtain ⟨n6, hv⟩ := zlp1 hv
    obtain ⟨n7, hv⟩ := zlp1 hv
    obtain ⟨n8, hv⟩ := zlp1 hv
    rcases zlp2 hv with ⟨e0, hv⟩ | ⟨e0, hv⟩
    · exact lfx e0 (lf_10 86 (by decide) k ⟨(fun z => n7 ⟨e0, z⟩), (fun z => n5 ⟨e0, z⟩), (fun z => n3 ⟨e0, z⟩), (fun z => n1 ⟨e0, z⟩)⟩) hv
    · have g1 : 87 ≤ c := Nat.lt_of_le_of_ne h1 (fun z => e0 z.symm)
      have g2 : 88 ≤ c := Nat.lt_of_le_of_ne g1 (fun z => n8 z.symm)
      have g3 : 89 ≤ c := Nat.lt_of_le_of_ne g2 (fun z => n6 z.symm)
      have g4 : 90 ≤ c := Nat.lt_of_le_of_ne g3 (fun z => n4 z.symm)
      have g5 : 91 ≤ c := Nat.lt_of_le_of_ne g4 (fun z => n2 z.symm)
      exact absurd h2 (Nat.not_lt.mpr g5)
theorem dX5_init_0 : decode cX5_init 0 = .ok (.aload_n 0, 1) := by decide +kernel
theorem dX5_init_1 : decode cX5_init 1 = .ok (.invokespecial 3, 3) := by decide +kernel
theorem dX5_init_4 : decode cX5_init 4 = .ok (.aload_n 0, 1) := by decide +kernel
theorem dX5_init_5 : decode cX5_init 5 = .ok (.iconst 3, 1) := by decide +kernel
theorem dX5_init_6 : decode cX5_init 6 = .ok (.newarray .int, 2) := by decide +kernel
theorem dX5_init_8 : decode cX5_init 8 = .ok (.putfield 9, 3) := by decide +kernel
theorem dX5_init_11 : decode cX5_init 11 = .ok (.aload_n 0, 1) := by decide +kernel
theorem dX5_init_12 : decode cX5_init 12 = .ok (.bipush 80, 2) := by decide +kernel
theorem dX5_init_14 : decode cX5_init 14 = .ok (.newarray .int, 2) := by decide +kernel
theorem dX5_init_16 : decode cX5_init 16 = .ok (.putfield 15, 3) := by decide +kernel
theorem dX5_init_19 : decode cX5_init 19 = .ok (.return_, 1) := by decide +kernel
theorem lf_5 (a : Nat) (hk : kt a = 5 + 3) : ∀ k, (k ≠ 3 ∧ k ≠ 4) → isR a k = true → hFin a k = -1 := by
  intro k hne h
  unfold isR at h
  unfold hFin
  rw [zsk_obj hk] at h ⊢
  match k, hne, h with
  | 0, _, h => exact Bool.noConfusion h
  | 1, _, h => exact Bool.noConfusion h
  | 2, _, h => exact Bool.noConfusion h
  | 3, hne, _ => exact absurd hne (by omega)
  | 4, hne, _ => exact absurd hne (by omega)
  | k + 5, _, h => exact Bool.noConfusion h
set_option maxHeartbeats 8000000 in
set_option maxRecDepth 100000 in
theorem kX5_init (l : Launch) (g : zG) (B : Nat) (u : Nat → Nat → Bool) : CTn l g B yX5_init cX5_init 1 1 2 83 [.ref (B + 91)] (fun c k => if c = 91 then isR c k else u c k) (91 + 1) (fun c k => if c < 91 then u c k else false) := by
  refine n_enter (by decide) rfl rfl (Nat.le_of_ble_eq_true rfl) ?_
  intro p e s m args below meth c ls cn hn hl
  have hl : lv_has ls 1 [(0, .ref (B + 91))] := hl
  refine lv_aload_n cn.1 cn.2.1 dX5_init_0 rfl (lv_at hl 0 rfl) ?_
  refine W.objInit cn.1 cn.2.1 cn.2.2.2.1 (cn.2.2.2.2.1 _ mo_X5) (cn.2.2.2.2.1 _ zw_oi.1) (cn.2.2.2.2.1 _ zw_oi.2) rfl (hl.1.trans cn.2.2.1.symm) rfl dX5_init_1 (Nat.le_of_ble_eq_true rfl) (Nat.le_of_ble_eq_true rfl) ?_
  refine lv_aload_n cn.1 cn.2.1 dX5_init_4 rfl (lv_at hl 0 rfl) ?_
  refine lv_iconst (v := ii 3) cn.1 cn.2.1 dX5_init_5 (by decide) ?_
  refine n_newa cn hn (by decide) (show kt 92 = 0 from by decide) (by decide) (by decide) (by decide) dX5_init_6 (fun H hn => ?_)
  refine n_put cn hn tyX5 tyX5_ok nmX5 5 3 92 rfl zin_5 (by decide) (by decide) (show kt 91 = 5 + 3 from by decide) (by omega) (Or.inl rfl) (by decide) rfl (Or.inr ⟨_, rfl⟩) fl_X5_9 dX5_init_8 (fun H locs hn => ?_)
  refine lv_aload_n cn.1 cn.2.1 dX5_init_11 rfl (lv_at hl 0 rfl) ?_
  refine lv_bipush (v := ii 80) cn.1 cn.2.1 dX5_init_12 (by decide) ?_
  refine n_newa cn hn (by decide) (show kt 93 = 0 from by decide) (by decide) (by decide) (by decide) dX5_init_14 (fun H hn => ?_)
  refine n_put cn hn tyX5 tyX5_ok nmX5 5 4 93 rfl zin_5 (by decide) (by decide) (show kt 91 = 5 + 3 from by decide) (by omega) (Or.inl rfl) (by decide) rfl (Or.inr ⟨_, rfl⟩) fl_X5_15 dX5_init_16 (fun H locs hn => ?_)
  refine W.widen (k := 2) (n := 83) (by omega) (by decide) ?_
  refine n_vret (n0 := 91 + 1) cn hn rfl (he_gen ?_ ?_) dX5_init_19
  · intro c k hc
    refine (if_neg (by omega)).trans ?_
    refine (if_neg (by omega)).trans ?_
    refine (if_neg (by omega)).trans ?_
    refine (if_neg (by omega)).trans ?_
    exact if_neg (by omega)
  · intro c k h1 h2 hv
    obtain ⟨n1, hv⟩ := zlp1 hv
    obtain ⟨n2, hv⟩ := zlp1 hv
    obtain ⟨n3, hv⟩ := zlp1 hv
    obtain ⟨n4, hv⟩ := zlp1 hv
    rcases zlp2 hv with ⟨e0, hv⟩ | ⟨e0, hv⟩
    · exact lfx e0 (lf_5 91 (by decide) k ⟨(fun z => n3 ⟨e0, z⟩), (fun z => n1 ⟨e0, z⟩)⟩) hv
    · have g1 : 92 ≤ c := Nat.lt_of_le_of_ne h1 (fun z => e0 z.symm)
      have g2 : 93 ≤ c := Nat.lt_of_le_of_ne g1 (fun z => n4 z.symm)
      have g3 : 94 ≤ c := Nat.lt_of_le_of_ne g2 (fun z => n2 z.symm)
      exact absurd h2 (Nat.not_lt.mpr g3)
theorem dX2_init_0 : decode cX2_init 0 = .ok (.aload_n 0, 1) := by decide +kernel
theorem dX2_init_1 : decode cX2_init 1 = .ok (.invokespecial 3, 3) := by decide +kernel
theorem dX2_init_4 : decode cX2_init 4 = .ok (.aload_n 0, 1) := by decide +kernel
theorem dX2_init_5 : decode cX2_init 5 = .ok (.sipush 877, 3) := by decide +kernel
theorem dX2_init_8 : decode cX2_init 8 = .ok (.newarray .int, 2) := by decide +kernel
theorem dX2_init_10 : decode cX2_init 10 = .ok (.putfield 9, 3) := by decide +kernel
theorem dX2_init_13 : decode cX2_init 13 = .ok (.aload_n 0, 1) := by decide +kernel
theorem dX2_init_14 : decode cX2_init 14 = .ok (.bipush 7, 2) := by decide +kernel
theorem dX2_init_16 : decode cX2_init 16 = .ok (.newarray .int, 2) := by decide +kernel
theorem dX2_init_18 : decode cX2_init 18 = .ok (.putfield 15, 3) := by decide +kernel
theorem dX2_init_21 : decode cX2_init 21 = .ok (.aload_n 0, 1) := by decide +kernel
theorem dX2_init_22 : decode cX2_init 22 = .ok (.bipush 7, 2) := by decide +kernel
theorem dX2_init_24 : decode cX2_init 24 = .ok (.newarray .int, 2) := by decide +kernel
theorem dX2_init_26 : decode cX2_init 26 = .ok (.putfield 18, 3) := by decide +kernel
theorem dX2_init_29 : decode cX2_init 29 = .ok (.return_, 1) := by decide +kernel
theorem lf_2 (a : Nat) (hk : kt a = 2 + 3) : ∀ k, (k ≠ 0 ∧ k ≠ 2 ∧ k ≠ 3) → isR a k = true → hFin a k = -1 := by
  intro k hne h
  have ha0 : a ≠ 0 := fun q => by subst q; exact absurd hk (by decide)
  have ha7 : a ≠ 77 := fun q => by subst q; exact absurd hk (by decide)
  unfold isR at h
  unfold hFin
  rw [zsk_obj hk] at h ⊢
  match k, hne, h with
  | 0, hne, _ => exact absurd hne (by omega)
  | 1, _, h => exact Bool.noConfusion h
  | 2, hne, _ => exact absurd hne (by omega)
  | 3, hne, _ => exact absurd hne (by omega)
  | 4, _, _ => show (if a = 0 then (78 : Int) else if a = 77 ∧ 4 < 4 then _ else -1) = -1; rw [if_neg ha0, if_neg (fun q => ha7 q.1)]
  | k + 5, _, h => exact Bool.noConfusion h
set_option maxHeartbeats 8000000 in
set_option maxRecDepth 100000 in
theorem kX2_init (l : Launch) (g : zG) (B : Nat) (u : Nat → Nat → Bool) : CTn l g B yX2_init cX2_init 1 1 3 891 [.ref (B + 94)] (fun c k => if c = 94 then isR c k else u c k) (94 + 1) (fun c k => if c < 94 then u c k else false) := by
  refine n_enter (by decide) rfl rfl (Nat.le_of_ble_eq_true rfl) ?_
  intro p e s m args below meth c ls cn hn hl
  have hl : lv_has ls 1 [(0, .ref (B + 94))] := hl
  refine lv_aload_n cn.1 cn.2.1 dX2_init_0 rfl (lv_at hl 0 rfl) ?_
  refine W.objInit cn.1 cn.2.1 cn.2.2.2.1 (cn.2.2.2.2.1 _ mo_X2) (cn.2.2.2.2.1 _ zw_oi.1) (cn.2.2.2.2.1 _ zw_oi.2) rfl (hl.1.trans cn.2.2.1.symm) rfl dX2_init_1 (Nat.le_of_ble_eq_true rfl) (Nat.le_of_ble_eq_true rfl) ?_
  refine lv_aload_n cn.1 cn.2.1 dX2_init_4 rfl (lv_at hl 0 rfl) ?_
  refine lv_sipush (v := ii 877) cn.1 cn.2.1 dX2_init_5 (by decide) ?_
  refine n_newa cn hn (by decide) (show kt 95 = 0 from by decide) (by decide) (by decide) (by decide) dX2_init_8 (fun H hn => ?_)
  refine n_put cn hn tyX2 tyX2_ok nmX2 2 0 95 rfl zin_2 (by decide) (by decide) (show kt 94 = 2 + 3 from by decide) (by omega) (Or.inl rfl) (by decide) rfl (Or.inr ⟨_, rfl⟩) fl_X2_9 dX2_init_10 (fun H locs hn => ?_)
  refine lv_aload_n cn.1 cn.2.1 dX2_init_13 rfl (lv_at hl 0 rfl) ?_
  refine lv_bipush (v := ii 7) cn.1 cn.2.1 dX2_init_14 (by decide) ?_
  refine n_newa cn hn (by decide) (show kt 96 = 0 from by decide) (by decide) (by decide) (by decide) dX2_init_16 (fun H hn => ?_)
  refine n_put cn hn tyX2 tyX2_ok nmX2 2 2 96 rfl zin_2 (by decide) (by decide) (show kt 94 = 2 + 3 from by decide) (by omega) (Or.inl rfl) (by decide) rfl (Or.inr ⟨_, rfl⟩) fl_X2_15 dX2_init_18 (fun H locs hn => ?_)
  refine lv_aload_n cn.1 cn.2.1 dX2_init_21 rfl (lv_at hl 0 rfl) ?_
  refine lv_bipush (v := ii 7) cn.1 cn.2.1 dX2_init_22 (by decide) ?_
  refine n_newa cn hn (by decide) (show kt 97 = 0 from by decide) (by decide) (by decide) (by decide) dX2_init_24 (fun H hn => ?_)
  refine n_put cn hn tyX2 tyX2_ok nmX2 2 3 97 rfl zin_2 (by decide) (by decide) (show kt 94 = 2 + 3 from by decide) (by omega) (Or.inl rfl) (by decide) rfl (Or.inr ⟨_, rfl⟩) fl_X2_18 dX2_init_26 (fun H locs hn => ?_)
  refine W.widen (k := 3) (n := 891) (by omega) (by decide) ?_
  refine n_vret (n0 := 94 + 1) cn hn rfl (he_gen ?_ ?_) dX2_init_29
  · intro c k hc
    refine (if_neg (by omega)).trans ?_
    refine (if_neg (by omega)).trans ?_
    refine (if_neg (by omega)).trans ?_
    refine (if_neg (by omega)).trans ?_
    refine (if_neg (by omega)).trans ?_
    refine (if_neg (by omega)).trans ?_
    exact if_neg (by omega)
  · intro c k h1 h2 hv
    obtain ⟨n1, hv⟩ := zlp1 hv
    obtain ⟨n2, hv⟩ := zlp1 hv
    obtain ⟨n3, hv⟩ := zlp1 hv
    obtain ⟨n4, hv⟩ := zlp1 hv
    obtain ⟨n5, hv⟩ := zlp1 hv
    obtain ⟨n6, hv⟩ := zlp1 hv
    rcases zlp2 hv with ⟨e0, hv⟩ | ⟨e0, hv⟩
    · exact lfx e0 (lf_2 94 (by decide) k ⟨(fun z => n5 ⟨e0, z⟩), (fun z => n3 ⟨e0, z⟩), (fun z => n1 ⟨e0, z⟩)⟩) hv
    · have g1 : 95 ≤ c := Nat.lt_of_le_of_ne h1 (fun z => e0 z.symm)
      have g2 : 96 ≤ c := Nat.lt_of_le_of_ne g1 (fun z => n6 z.symm)
      have g3 : 97 ≤ c := Nat.lt_of_le_of_ne g2 (fun z => n4 z.symm)
      have g4 : 98 ≤ c := Nat.lt_of_le_of_ne g3 (fun z => n2 z.symm)
      exact absurd h2 (Nat.not_lt.mpr g4)
theorem dX7_init_0 : decode cX7_init 0 = .ok (.aload_n 0, 1) := by decide +kernel
theorem dX7_init_1 : decode cX7_init 1 = .ok (.invokespecial 3, 3) := by decide +kernel
theorem dX7_init_4 : decode cX7_init 4 = .ok (.aload_n 0, 1) := by decide +kernel
theorem dX7_init_5 : decode cX7_init 5 = .ok (.bipush 7, 2) := by decide +kernel
theorem dX7_init_7 : decode cX7_init 7 = .ok (.newarray .int, 2) := by decide +kernel
theorem dX7_init_9 : decode cX7_init 9 = .ok (.putfield 9, 3) := by decide +kernel
theorem dX7_init_12 : decode cX7_init 12 = .ok (.aload_n 0, 1) := by decide +kernel
theorem dX7_init_13 : decode cX7_init 13 = .ok (.sipush 196, 3) := by decide +kernel
theorem dX7_init_16 : decode cX7_init 16 = .ok (.newarray .int, 2) := by decide +kernel
theorem dX7_init_18 : decode cX7_init 18 = .ok (.putfield 15, 3) := by decide +kernel
theorem dX7_init_21 : decode cX7_init 21 = .ok (.aload_n 0, 1) := by decide +kernel
theorem dX7_init_22 : decode cX7_init 22 = .ok (.sipush 196, 3) := by decide +kernel
theorem dX7_init_25 : decode cX7_init 25 = .ok (.newarray .int, 2) := by decide +kernel
theorem dX7_init_27 : decode cX7_init 27 = .ok (.putfield 18, 3) := by decide +kernel
theorem dX7_init_30 : decode cX7_init 30 = .ok (.aload_n 0, 1) := by decide +kernel
theorem dX7_init_31 : decode cX7_init 31 = .ok (.sipush 196, 3) := by decide +kernel
theorem dX7_init_34 : decode cX7_init 34 = .ok (.newarray .int, 2) := by decide +kernel
theorem dX7_init_36 : decode cX7_init 36 = .ok (.putfield 21, 3) := by decide +kernel
theorem dX7_init_39 : decode cX7_init 39 = .ok (.aload_n 0, 1) := by decide +kernel
theorem dX7_init_40 : decode cX7_init 40 = .ok (.sipush 196, 3) := by decide +kernel
theorem dX7_init_43 : decode cX7_init 43 = .ok (.newarray .int, 2) := by decide +kernel
theorem dX7_init_45 : decode cX7_init 45 = .ok (.putfield 24, 3) := by decide +kernel
theorem dX7_init_48 : decode cX7_init 48 = .ok (.aload_n 0, 1) := by decide +kernel
theorem dX7_init_49 : decode cX7_init 49 = .ok (.bipush 7, 2) := by decide +kernel
theorem dX7_init_51 : decode cX7_init 51 = .ok (.newarray .int, 2) := by decide +kernel
theorem dX7_init_53 : decode cX7_init 53 = .ok (.putfield 27, 3) := by decide +kernel
theorem dX7_init_56 : decode cX7_init 56 = .ok (.return_, 1) := by decide +kernel
theorem lf_7 (a : Nat) (hk : kt a = 7 + 3) : ∀ k, (k ≠ 8 ∧ k ≠ 9 ∧ k ≠ 10 ∧ k ≠ 11 ∧ k ≠ 12 ∧ k ≠ 13) → isR a k = true → hFin a k = -1 := by
  intro k hne h
  have ha0 : a ≠ 0 := fun q => by subst q; exact absurd hk (by decide)
  have ha7 : a ≠ 77 := fun q => by subst q; exact absurd hk (by decide)
  unfold isR at h
  unfold hFin
  rw [zsk_obj hk] at h ⊢
  match k, hne, h with
  | 0, _, h => exact Bool.noConfusion h
  | 1, _, h => exact Bool.noConfusion h
  | 2, _, _ => show (if a = 0 then (78 : Int) else if a = 77 ∧ 2 < 4 then _ else -1) = -1; rw [if_neg ha0, if_neg (fun q => ha7 q.1)]
  | 3, _, _ => show (if a = 0 then (78 : Int) else if a = 77 ∧ 3 < 4 then _ else -1) = -1; rw [if_neg ha0, if_neg (fun q => ha7 q.1)]
  | 4, _, h => exact Bool.noConfusion h
  | 5, _, h => exact Bool.noConfusion h
  | 6, _, h => exact Bool.noConfusion h
  | 7, _, h => exact Bool.noConfusion h
  | 8, hne, _ => exact absurd hne (by omega)
  | 9, hne, _ => exact absurd hne (by omega)
  | 10, hne, _ => exact absurd hne (by omega)
  | 11, hne, _ => exact absurd hne (by omega)
  | 12, hne, _ => exact absurd hne (by omega)
  | 13, hne, _ => exact absurd hne (by omega)
  | 14, _, h => exact Bool.noConfusion h
  | k + 15, _, h => exact Bool.noConfusion h
set_option maxHeartbeats 8000000 in
set_option maxRecDepth 100000 in
theorem kX7_init (l : Launch) (g : zG) (B : Nat) (u : Nat → Nat → Bool) : CTn l g B yX7_init cX7_init 1 1 6 798 [.ref (B + 98)] (fun c k => if c = 98 then isR c k else u c k) (98 + 1) (fun c k => if c < 98 then u c k else false) := by
  refine n_enter (by decide) rfl rfl (Nat.le_of_ble_eq_true rfl) ?_
  intro p e s m args below meth c ls cn hn hl
  have hl : lv_has ls 1 [(0, .ref (B + 98))] := hl
  refine lv_aload_n cn.1 cn.2.1 dX7_init_0 rfl (lv_at hl 0 rfl) ?_
  refine W.objInit cn.1 cn.2.1 cn.2.2.2.1 (cn.2.2.2.2.1 _ mo_X7) (cn.2.2.2.2.1 _ zw_oi.1) (cn.2.2.2.2.1 _ zw_oi.2) rfl (hl.1.trans cn.2.2.1.symm) rfl dX7_init_1 (Nat.le_of_ble_eq_true rfl) (Nat.le_of_ble_eq_true rfl) ?_
  refine lv_aload_n cn.1 cn.2.1 dX7_init_4 rfl (lv_at hl 0 rfl) ?_
  refine lv_bipush (v := ii 7) cn.1 cn.2.1 dX7_init_5 (by decide) ?_
  refine n_newa cn hn (by decide) (show kt 99 = 0 from by decide) (by decide) (by decide) (by decide) dX7_init_7 (fun H hn => ?_)
  refine n_put cn hn tyX7 tyX7_ok nmX7 7 8 99 rfl zin_7 (by decide) (by decide) (show kt 98 = 7 + 3 from by decide) (by omega) (Or.inl rfl) (by decide) rfl (Or.inr ⟨_, rfl⟩) fl_X7_9 dX7_init_9 (fun H locs hn => ?_)
  refine lv_aload_n cn.1 cn.2.1 dX7_init_12 rfl (lv_at hl 0 rfl) ?_
  refine lv_sipush (v := ii 196) cn.1 cn.2.1 dX7_init_13 (by decide) ?_
  refine n_newa cn hn (by decide) (show kt 100 = 0 from by decide) (by decide) (by decide) (by decide) dX7_init_16 (fun H hn => ?_)
  refine n_put cn hn tyX7 tyX7_ok nmX7 7 9 100 rfl zin_7 (by decide) (by decide) (show kt 98 = 7 + 3 from by decide) (by omega) (Or.inl rfl) (by decide) rfl (Or.inr ⟨_, rfl⟩) fl_X7_15 dX7_init_18 (fun H locs hn => ?_)
  refine lv_aload_n cn.1 cn.2.1 dX7_init_21 rfl (lv_at hl 0 rfl) ?_
  refine lv_sipush (v := ii 196) cn.1 cn.2.1 dX7_init_22 (by decide) ?_
  refine n_newa cn hn (by decide) (show kt 101 = 0 from by decide) (by decide) (by decide) (by decide) dX7_init_25 (fun H hn => ?_)
  refine n_put cn hn tyX7 tyX7_ok nmX7 7 10 101 rfl zin_7 (by decide) (by decide) (show kt 98 = 7 + 3 from by decide) (by omega) (Or.inl rfl) (by decide) rfl (Or.inr ⟨_, rfl⟩) fl_X7_18 dX7_init_27 (fun H locs hn => ?_)
  refine lv_aload_n cn.1 cn.2.1 dX7_init_30 rfl (lv_at hl 0 rfl) ?_
  refine lv_sipush (v := ii 196) cn.1 cn.2.1 dX7_init_31 (by decide) ?_
  refine n_newa cn hn (by decide) (show kt 102 = 0 from by decide) (by decide) (by decide) (by decide) dX7_init_34 (fun H hn => ?_)
  refine n_put cn hn tyX7 tyX7_ok nmX7 7 11 102 rfl zin_7 (by decide) (by decide) (show kt 98 = 7 + 3 from by decide) (by omega) (Or.inl rfl) (by decide) rfl (Or.inr ⟨_, rfl⟩) fl_X7_21 dX7_init_36 (fun H locs hn => ?_)
  refine lv_aload_n cn.1 cn.2.1 dX7_init_39 rfl (lv_at hl 0 rfl) ?_
  refine lv_sipush (v := ii 196) cn.1 cn.2.1 dX7_init_40 (by decide) ?_
  refine n_newa cn hn (by decide) (show kt 103 = 0 from by decide) (by decide) (by decide) (by decide) dX7_init_43 (fun H hn => ?_)
  refine n_put cn hn tyX7 tyX7_ok nmX7 7 12 103 rfl zin_7 (by decide) (by decide) (show kt 98 = 7 + 3 from by decide) (by omega) (Or.inl rfl) (by decide) rfl (Or.inr ⟨_, rfl⟩) fl_X7_24 dX7_init_45 (fun H locs hn => ?_)
  refine lv_aload_n cn.1 cn.2.1 dX7_init_48 rfl (lv_at hl 0 rfl) ?_
  refine lv_bipush (v := ii 7) cn.1 cn.2.1 dX7_init_49 (by decide) ?_
  refine n_newa cn hn (by decide) (show kt 104 = 0 from by decide) (by decide) (by decide) (by decide) dX7_init_51 (fun H hn => ?_)
  refine n_put cn hn tyX7 tyX7_ok nmX7 7 13 104 rfl zin_7 (by decide) (by decide) (show kt 98 = 7 + 3 from by decide) (by omega) (Or.inl rfl) (by decide) rfl (Or.inr ⟨_, rfl⟩) fl_X7_27 dX7_init_53 (fun H locs hn => ?_)
  refine W.widen (k := 6) (n := 798) (by omega) (by decide) ?_
  refine n_vret (n0 := 98 + 1) cn hn rfl (he_gen ?_ ?_) dX7_init_56
  · intro c k hc
    refine (if_neg (by omega)).trans ?_
    refine (if_neg (by omega)).trans ?_
    refine (if_neg (by omega)).trans ?_
    refine (if_neg (by omega)).trans ?_
    refine (if_neg (by omega)).trans ?_
    refine (if_neg (by omega)).trans ?_
    refine (if_neg (by omega)).trans ?_
    refine (if_neg (by omega)).trans ?_
    refine (if_neg (by omega)).trans ?_
    refine (if_neg (by omega)).trans ?_
    refine (if_neg (by omega)).trans ?_
    refine (if_neg (by omega)).trans ?_
    exact if_neg (by omega)
  · intro c k h1 h2 hv
    obtain ⟨n1, hv⟩ := zlp1 hv
    obtain ⟨n2, hv⟩ := zlp1 hv
    obtain ⟨n3, hv⟩ := zlp1 hv
    obtain ⟨n4, hv⟩ := zlp1 hv
    obtain ⟨n5, hv⟩ := zlp1 hv
    obtain ⟨n6, hv⟩ := zlp1 hv
    obtain ⟨n7, hv⟩ := zlp1 hv
    obtain ⟨n8, hv⟩ := zlp1 hv
    obtain ⟨n9, hv⟩ := zlp1 hv
    obtain ⟨n10, hv⟩ := zlp1 hv
    obtain ⟨n11, hv⟩ := zlp1 hv
    obtain ⟨n12, hv⟩ := zlp1 hv
    rcases zlp2 hv with ⟨e0, hv⟩ | ⟨e0, hv⟩
    · exact lfx e0 (lf_7 98 (by decide) k ⟨(fun z => n11 ⟨e0, z⟩), (fun z => n9 ⟨e0, z⟩), (fun z => n7 ⟨e0, z⟩), (fun z => n5 ⟨e0, z⟩), (fun z => n3 ⟨e0, z⟩), (fun z => n1 ⟨e0, z⟩)⟩) hv
    · have g1 : 99 ≤ c := Nat.lt_of_le_of_ne h1 (fun z => e0 z.symm)
      have g2 : 100 ≤ c := Nat.lt_of_le_of_ne g1 (fun z => n12 z.symm)
      have g3 : 101 ≤ c := Nat.lt_of_le_of_ne g2 (fun z => n10 z.symm)
      have g4 : 102 ≤ c := Nat.lt_of_le_of_ne g3 (fun z => n8 z.symm)
      have g5 : 103 ≤ c := Nat.lt_of_le_of_ne g4 (fun z => n6 z.symm)
      have g6 : 104 ≤ c := Nat.lt_of_le_of_ne g5 (fun z => n4 z.symm)
      have g7 : 105 ≤ c := Nat.lt_of_le_of_ne g6 (fun z => n2 z.symm)
      exact absurd h2 (Nat.not_lt.mpr g7)
theorem dX6_init_0 : decode cX6_init 0 = .ok (.aload_n 0, 1) := by decide +kernel
theorem dX6_init_1 : decode cX6_init 1 = .ok (.invokespecial 3, 3) := by decide +kernel
theorem dX6_init_4 : decode cX6_init 4 = .ok (.aload_n 0, 1) := by decide +kernel
theorem dX6_init_5 : decode cX6_init 5 = .ok (.bipush 7, 2) := by decide +kernel
theorem dX6_init_7 : decode cX6_init 7 = .ok (.newarray .int, 2) := by decide +kernel
theorem dX6_init_9 : decode cX6_init 9 = .ok (.putfield 9, 3) := by decide +kernel
theorem dX6_init_12 : decode cX6_init 12 = .ok (.aload_n 0, 1) := by decide +kernel
theorem dX6_init_13 : decode cX6_init 13 = .ok (.bipush 7, 2) := by decide +kernel
theorem dX6_init_15 : decode cX6_init 15 = .ok (.newarray .int, 2) := by decide +kernel
theorem dX6_init_17 : decode cX6_init 17 = .ok (.putfield 15, 3) := by decide +kernel
theorem dX6_init_20 : decode cX6_init 20 = .ok (.aload_n 0, 1) := by decide +kernel
theorem dX6_init_21 : decode cX6_init 21 = .ok (.bipush 7, 2) := by decide +kernel
theorem dX6_init_23 : decode cX6_init 23 = .ok (.newarray .int, 2) := by decide +kernel
theorem dX6_init_25 : decode cX6_init 25 = .ok (.putfield 18, 3) := by decide +kernel
theorem dX6_init_28 : decode cX6_init 28 = .ok (.aload_n 0, 1) := by decide +kernel
theorem dX6_init_29 : decode cX6_init 29 = .ok (.bipush 7, 2) := by decide +kernel
theorem dX6_init_31 : decode cX6_init 31 = .ok (.newarray .int, 2) := by decide +kernel
theorem dX6_init_33 : decode cX6_init 33 = .ok (.putfield 21, 3) := by decide +kernel
theorem dX6_init_36 : decode cX6_init 36 = .ok (.return_, 1) := by decide +kernel
theorem lf_6 (a : Nat) (hk : kt a = 6 + 3) : ∀ k, (k ≠ 0 ∧ k ≠ 1 ∧ k ≠ 4 ∧ k ≠ 5) → isR a k = true → hFin a k = -1 := by
  intro k hne h
  unfold isR at h
  unfold hFin
  rw [zsk_obj hk] at h ⊢
  match k, hne, h with
  | 0, hne, _ => exact absurd hne (by omega)
  | 1, hne, _ => exact absurd hne (by omega)
  | 2, _, h => exact Bool.noConfusion h
  | 3, _, h => exact Bool.noConfusion h
  | 4, hne, _ => exact absurd hne (by omega)
  | 5, hne, _ => exact absurd hne (by omega)
  | k + 6, _, h => exact Bool.noConfusion h
set_option maxHeartbeats 8000000 in
set_option maxRecDepth 100000 in
theorem kX6_init (l : Launch) (g : zG) (B : Nat) (u : Nat → Nat → Bool) : CTn l g B yX6_init cX6_init 1 1 4 28 [.ref (B + 105)] (fun c k => if c = 105 then isR c k else u c k) (105 + 1) (fun c k => if c < 105 then u c k else false) := by
  refine n_enter (by decide) rfl rfl (Nat.le_of_ble_eq_true rfl) ?_
  intro p e s m args below meth c ls cn hn hl
  have hl : lv_has ls 1 [(0, .ref (B + 105))] := hl
  refine lv_aload_n cn.1 cn.2.1 dX6_init_0 rfl (lv_at hl 0 rfl) ?_
  refine W.objInit cn.1 cn.2.1 cn.2.2.2.1 (cn.2.2.2.2.1 _ mo_X6) (cn.2.2.2.2.1 _ zw_oi.1) (cn.2.2.2.2.1 _ zw_oi.2) rfl (hl.1.trans cn.2.2.1.symm) rfl dX6_init_1 (Nat.le_of_ble_eq_true rfl) (Nat.le_of_ble_eq_true rfl) ?_
  refine lv_aload_n cn.1 cn.2.1 dX6_init_4 rfl (lv_at hl 0 rfl) ?_
  refine lv_bipush (v := ii 7) cn.1 cn.2.1 dX6_init_5 (by decide) ?_
  refine n_newa cn hn (by decide) (show kt 106 = 0 from by decide) (by decide) (by decide) (by decide) dX6_init_7 (fun H hn => ?_)
  refine n_put cn hn tyX6 tyX6_ok nmX6 6 0 106 rfl zin_6 (by decide) (by decide) (show kt 105 = 6 + 3 from by decide) (by omega) (Or.inl rfl) (by decide) rfl (Or.inr ⟨_, rfl⟩) fl_X6_9 dX6_init_9 (fun H locs hn => ?_)
  refine lv_aload_n cn.1 cn.2.1 dX6_init_12 rfl (lv_at hl 0 rfl) ?_
  refine lv_bipush (v := ii 7) cn.1 cn.2.1 dX6_init_13 (by decide) ?_
  refine n_newa cn hn (by decide) (show kt 107 = 0 from by decide) (by decide) (by decide) (by decide) dX6_init_15 (fun H hn => ?_)
  refine n_put cn hn tyX6 tyX6_ok nmX6 6 1 107 rfl zin_6 (by decide) (by decide) (show kt 105 = 6 + 3 from by decide) (by omega) (Or.inl rfl) (by decide) rfl (Or.inr ⟨_, rfl⟩) fl_X6_15 dX6_init_17 (fun H locs hn => ?_)
  refine lv_aload_n cn.1 cn.2.1 dX6_init_20 rfl (lv_at hl 0 rfl) ?_
  refine lv_bipush (v := ii 7) cn.1 cn.2.1 dX6_init_21 (by decide) ?_
  refine n_newa cn hn (by decide) (show kt 108 = 0 from by decide) (by decide) (by decide) (by decide) dX6_init_23 (fun H hn => ?_)
  refine n_put cn hn tyX6 tyX6_ok nmX6 6 4 108 rfl zin_6 (by decide) (by decide) (show kt 105 = 6 + 3 from by decide) (by omega) (Or.inl rfl) (by decide) rfl (Or.inr ⟨_, rfl⟩) fl_X6_18 dX6_init_25 (fun H locs hn => ?_)
  refine lv_aload_n cn.1 cn.2.1 dX6_init_28 rfl (lv_at hl 0 rfl) ?_
  refine lv_bipush (v := ii 7) cn.1 cn.2.1 dX6_init_29 (by decide) ?_
  refine n_newa cn hn (by decide) (show kt 109 = 0 from by decide) (by decide) (by decide) (by decide) dX6_init_31 (fun H hn => ?_)
  refine n_put cn hn tyX6 tyX6_ok nmX6 6 5 109 rfl zin_6 (by decide) (by decide) (show kt 105 = 6 + 3 from by decide) (by omega) (Or.inl rfl) (by decide) rfl (Or.inr ⟨_, rfl⟩) fl_X6_21 dX6_init_33 (fun H locs hn => ?_)
  refine W.widen (k := 4) (n := 28) (by omega) (by decide) ?_
  refine n_vret (n0 := 105 + 1) cn hn rfl (he_gen ?_ ?_) dX6_init_36
  · intro c k hc
    refine (if_neg (by omega)).trans ?_
    refine (if_neg (by omega)).trans ?_
    refine (if_neg (by omega)).trans ?_
    refine (if_neg (by omega)).trans ?_
    refine (if_neg (by omega)).trans ?_
    refine (if_neg (by omega)).trans ?_
    refine (if_neg (by omega)).trans ?_
    refine (if_neg (by omega)).trans ?_
    exact if_neg (by omega)
  · intro c k h1 h2 hv
    obtain ⟨n1, hv⟩ := zlp1 hv
    obtain ⟨n2, hv⟩ := zlp1 hv
    obtain ⟨n3, hv⟩ := zlp1 hv
    obtain ⟨n4, hv⟩ := zlp1 hv
    obtain ⟨n5, hv⟩ := zlp1 hv
    obtain ⟨n6, hv⟩ := zlp1 hv
    obtain ⟨n7, hv⟩ := zlp1 hv
    obtain ⟨n8, hv⟩ := zlp1 hv
    rcases zlp2 hv with ⟨e0, hv⟩ | ⟨e0, hv⟩
    · exact lfx e0 (lf_6 105 (by decide) k ⟨(fun z => n7 ⟨e0, z⟩), (fun z => n5 ⟨e0, z⟩), (fun z => n3 ⟨e0, z⟩), (fun z => n1 ⟨e0, z⟩)⟩) hv
    · have g1 : 106 ≤ c := Nat.lt_of_le_of_ne h1 (fun z => e0 z.symm)
      have g2 : 107 ≤ c := Nat.lt_of_le_of_ne g1 (fun z => n8 z.symm)
      have g3 : 108 ≤ c := Nat.lt_of_le_of_ne g2 (fun z => n6 z.symm)
      have g4 : 109 ≤ c := Nat.lt_of_le_of_ne g3 (fun z => n4 z.symm)
      have g5 : 110 ≤ c := Nat.lt_of_le_of_ne g4 (fun z => n2 z.symm)
      exact absurd h2 (Nat.not_lt.mpr g5)
theorem dX9_init_0 : decode cX9_init 0 = .ok (.aload_n 0, 1) := by decide +kernel
theorem dX9_init_1 : decode cX9_init 1 = .ok (.invokespecial 3, 3) := by decide +kernel
theorem dX9_init_4 : decode cX9_init 4 = .ok (.aload_n 0, 1) := by decide +kernel
theorem dX9_init_5 : decode cX9_init 5 = .ok (.sipush 300, 3) := by decide +kernel
theorem dX9_init_8 : decode cX9_init 8 = .ok (.newarray .int, 2) := by decide +kernel
theorem dX9_init_10 : decode cX9_init 10 = .ok (.putfield 9, 3) := by decide +kernel
theorem dX9_init_13 : decode cX9_init 13 = .ok (.aload_n 0, 1) := by decide +kernel
theorem dX9_init_14 : decode cX9_init 14 = .ok (.sipush 2100, 3) := by decide +kernel
theorem dX9_init_17 : decode cX9_init 17 = .ok (.newarray .int, 2) := by decide +kernel
theorem dX9_init_19 : decode cX9_init 19 = .ok (.putfield 15, 3) := by decide +kernel
theorem dX9_init_22 : decode cX9_init 22 = .ok (.aload_n 0, 1) := by decide +kernel
theorem dX9_init_23 : decode cX9_init 23 = .ok (.bipush 7, 2) := by decide +kernel
theorem dX9_init_25 : decode cX9_init 25 = .ok (.newarray .int, 2) := by decide +kernel
theorem dX9_init_27 : decode cX9_init 27 = .ok (.putfield 18, 3) := by decide +kernel
theorem dX9_init_30 : decode cX9_init 30 = .ok (.return_, 1) := by decide +kernel
theorem lf_9 (a : Nat) (hk : kt a = 9 + 3) : ∀ k, (k ≠ 0 ∧ k ≠ 3 ∧ k ≠ 4) → isR a k = true → hFin a k = -1 := by
  intro k hne h
  have ha0 : a ≠ 0 := fun q => by subst q; exact absurd hk (by decide)
  have ha7 : a ≠ 77 := fun q => by subst q; exact absurd hk (by decide)
  unfold isR at h
  unfold hFin
  rw [zsk_obj hk] at h ⊢
  match k, hne, h with
  | 0, hne, _ => exact absurd hne (by omega)
  | 1, _, h => exact Bool.noConfusion h
  | 2, _, h => exact Bool.noConfusion h
  | 3, hne, _ => exact absurd hne (by omega)
  | 4, hne, _ => exact absurd hne (by omega)
  | 5, _, _ => show (if a = 0 then (78 : Int) else if a = 77 ∧ 5 < 4 then _ else -1) = -1; rw [if_neg ha0, if_neg (fun q => ha7 q.1)]
  | k + 6, _, h => exact Bool.noConfusion h
set_option maxHeartbeats 8000000 in
set_option maxRecDepth 100000 in
theorem kX9_init (l : Launch) (g : zG) (B : Nat) (u : Nat → Nat → Bool) : CTn l g B yX9_init cX9_init 1 1 3 2407 [.ref (B + 110)] (fun c k => if c = 110 then isR c k else u c k) (110 + 1) (fun c k => if c < 110 then u c k else false) := by
  refine n_enter (by decide) rfl rfl (Nat.le_of_ble_eq_true rfl) ?_
  intro p e s m args below meth c ls cn hn hl
  have hl : lv_has ls 1 [(0, .ref (B + 110))] := hl
  refine lv_aload_n cn.1 cn.2.1 dX9_init_0 rfl (lv_at hl 0 rfl) ?_
  refine W.objInit cn.1 cn.2.1 cn.2.2.2.1 (cn.2.2.2.2.1 _ mo_X9) (cn.2.2.2.2.1 _ zw_oi.1) (cn.2.2.2.2.1 _ zw_oi.2) rfl (hl.1.trans cn.2.2.1.symm) rfl dX9_init_1 (Nat.le_of_ble_eq_true rfl) (Nat.le_of_ble_eq_true rfl) ?_
  refine lv_aload_n cn.1 cn.2.1 dX9_init_4 rfl (lv_at hl 0 rfl) ?_
  refine lv_sipush (v := ii 300) cn.1 cn.2.1 dX9_init_5 (by decide) ?_
  refine n_newa cn hn (by decide) (show kt 111 = 0 from by decide) (by decide) (by decide) (by decide) dX9_init_8 (fun H hn => ?_)
  refine n_put cn hn tyX9 tyX9_ok nmX9 9 0 111 rfl zin_9 (by decide) (by decide) (show kt 110 = 9 + 3 from by decide) (by omega) (Or.inl rfl) (by decide) rfl (Or.inr ⟨_, rfl⟩) fl_X9_9 dX9_init_10 (fun H locs hn => ?_)
  refine lv_aload_n cn.1 cn.2.1 dX9_init_13 rfl (lv_at hl 0 rfl) ?_
  refine lv_sipush (v := ii 2100) cn.1 cn.2.1 dX9_init_14 (by decide) ?_
  refine n_newa cn hn (by decide) (show kt 112 = 0 from by decide) (by decide) (by decide) (by decide) dX9_init_17 (fun H hn => ?_)
  refine n_put cn hn tyX9 tyX9_ok nmX9 9 3 112 rfl zin_9 (by decide) (by decide) (show kt 110 = 9 + 3 from by decide) (by omega) (Or.inl rfl) (by decide) rfl (Or.inr ⟨_, rfl⟩) fl_X9_15 dX9_init_19 (fun H locs hn => ?_)
  refine lv_aload_n cn.1 cn.2.1 dX9_init_22 rfl (lv_at hl 0 rfl) ?_
  refine lv_bipush (v := ii 7) cn.1 cn.2.1 dX9_init_23 (by decide) ?_
  refine n_newa cn hn (by decide) (show kt 113 = 0 from by decide) (by decide) (by decide) (by decide) dX9_init_25 (fun H hn => ?_)
  refine n_put cn hn tyX9 tyX9_ok nmX9 9 4 113 rfl zin_9 (by decide) (by decide) (show kt 110 = 9 + 3 from by decide) (by omega) (Or.inl rfl) (by decide) rfl (Or.inr ⟨_, rfl⟩) fl_X9_18 dX9_init_27 (fun H locs hn => ?_)
  refine W.widen (k := 3) (n := 2407) (by omega) (by decide) ?_
  refine n_vret (n0 := 110 + 1) cn hn rfl (he_gen ?_ ?_) dX9_init_30
  · intro c k hc
    refine (if_neg (by omega)).trans ?_
    refine (if_neg (by omega)).trans ?_
    refine (if_neg (by omega)).trans ?_
    refine (if_neg (by omega)).trans ?_
    refine (if_neg (by omega)).trans ?_
    refine (if_neg (by omega)).trans ?_
    exact if_neg (by omega)
  · intro c k h1 h2 hv
    obtain ⟨n1, hv⟩ := zlp1 hv
    obtain ⟨n2, hv⟩ := zlp1 hv
    obtain ⟨n3, hv⟩ := zlp1 hv
    obtain ⟨n4, hv⟩ := zlp1 hv
    obtain ⟨n5, hv⟩ := zlp1 hv
    obtain ⟨n6, hv⟩ := zlp1 hv
    rcases zlp2 hv with ⟨e0, hv⟩ | ⟨e0, hv⟩
    · exact lfx e0 (lf_9 110 (by decide) k ⟨(fun z => n5 ⟨e0, z⟩), (fun z => n3 ⟨e0, z⟩), (fun z => n1 ⟨e0, z⟩)⟩) hv
    · have g1 : 111 ≤ c := Nat.lt_of_le_of_ne h1 (fun z => e0 z.symm)
      have g2 : 112 ≤ c := Nat.lt_of_le_of_ne g1 (fun z => n6 z.symm)
      have g3 : 113 ≤ c := Nat.lt_of_le_of_ne g2 (fun z => n4 z.symm)
      have g4 : 114 ≤ c := Nat.lt_of_le_of_ne g3 (fun z => n2 z.symm)
      exact absurd h2 (Nat.not_lt.mpr g4)
theorem dX8_init_0 : decode cX8_init 0 = .ok (.aload_n 0, 1) := by decide +kernel
theorem dX8_init_1 : decode cX8_init 1 = .ok (.invokespecial 3, 3) := by decide +kernel
theorem dX8_init_4 : decode cX8_init 4 = .ok (.aload_n 0, 1) := by decide +kernel
theorem dX8_init_5 : decode cX8_init 5 = .ok (.aload_n 1, 1) := by decide +kernel
theorem dX8_init_6 : decode cX8_init 6 = .ok (.putfield 9, 3) := by decide +kernel
theorem dX8_init_9 : decode cX8_init 9 = .ok (.aload_n 0, 1) := by decide +kernel
theorem dX8_init_10 : decode cX8_init 10 = .ok (.aload_n 2, 1) := by decide +kernel
theorem dX8_init_11 : decode cX8_init 11 = .ok (.putfield 15, 3) := by decide +kernel
theorem dX8_init_14 : decode cX8_init 14 = .ok (.return_, 1) := by decide +kernel
theorem lf_8 (a : Nat) (hk : kt a = 8 + 3) : ∀ k, (k ≠ 2 ∧ k ≠ 3) → isR a k = true → hFin a k = -1 := by
  intro k hne h
  unfold isR at h
  unfold hFin
  rw [zsk_obj hk] at h ⊢
  match k, hne, h with
  | 0, _, h => exact Bool.noConfusion h
  | 1, _, h => exact Bool.noConfusion h
  | 2, hne, _ => exact absurd hne (by omega)
  | 3, hne, _ => exact absurd hne (by omega)
  | k + 4, _, h => exact Bool.noConfusion h
set_option maxHeartbeats 8000000 in
set_option maxRecDepth 100000 in
theorem kX8_init (l : Launch) (g : zG) (B : Nat) (u : Nat → Nat → Bool) : CTn l g B yX8_init cX8_init 3 1 0 0 [.ref (B + 114), .ref (B + 105), .ref (B + 91)] (fun c k => if c = 114 then isR c k else u c k) (114 + 1) (fun c k => if c < 114 then u c k else false) := by
  refine n_enter (by decide) rfl rfl (Nat.le_of_ble_eq_true rfl) ?_
  intro p e s m args below meth c ls cn hn hl
  have hl : lv_has ls 3 [(0, .ref (B + 114)), (1, .ref (B + 105)), (2, .ref (B + 91))] := hl
  refine lv_aload_n cn.1 cn.2.1 dX8_init_0 rfl (lv_at hl 0 rfl) ?_
  refine W.objInit cn.1 cn.2.1 cn.2.2.2.1 (cn.2.2.2.2.1 _ mo_X8) (cn.2.2.2.2.1 _ zw_oi.1) (cn.2.2.2.2.1 _ zw_oi.2) rfl (hl.1.trans cn.2.2.1.symm) rfl dX8_init_1 (Nat.le_of_ble_eq_true rfl) (Nat.le_of_ble_eq_true rfl) ?_
  refine lv_aload_n cn.1 cn.2.1 dX8_init_4 rfl (lv_at hl 0 rfl) ?_
  refine lv_aload_n cn.1 cn.2.1 dX8_init_5 rfl (lv_at hl 1 rfl) ?_
  refine n_put cn hn tyX8 tyX8_ok nmX8 8 2 105 rfl zin_8 (by decide) (by decide) (show kt 114 = 8 + 3 from by decide) (by omega) (Or.inl rfl) (by decide) rfl (Or.inl ⟨_, rfl⟩) fl_X8_9 dX8_init_6 (fun H locs hn => ?_)
  refine lv_aload_n cn.1 cn.2.1 dX8_init_9 rfl (lv_at hl 0 rfl) ?_
  refine lv_aload_n cn.1 cn.2.1 dX8_init_10 rfl (lv_at hl 2 rfl) ?_
  refine n_put cn hn tyX8 tyX8_ok nmX8 8 3 91 rfl zin_8 (by decide) (by decide) (show kt 114 = 8 + 3 from by decide) (by omega) (Or.inl rfl) (by decide) rfl (Or.inl ⟨_, rfl⟩) fl_X8_15 dX8_init_11 (fun H locs hn => ?_)
  refine W.widen (k := 0) (n := 0) (by omega) (by decide) ?_
  refine n_vret (n0 := 114 + 1) cn hn rfl (he_gen ?_ ?_) dX8_init_14
  · intro c k hc
    refine (if_neg (by omega)).trans ?_
    refine (if_neg (by omega)).trans ?_
    exact if_neg (by omega)
  · intro c k h1 h2 hv
    obtain ⟨n1, hv⟩ := zlp1 hv
    obtain ⟨n2, hv⟩ := zlp1 hv
    rcases zlp2 hv with ⟨e0, hv⟩ | ⟨e0, hv⟩
    · exact lfx e0 (lf_8 114 (by decide) k ⟨(fun z => n2 ⟨e0, z⟩), (fun z => n1 ⟨e0, z⟩)⟩) hv
    · have g1 : 115 ≤ c := Nat.lt_of_le_of_ne h1 (fun z => e0 z.symm)
      exact absurd h2 (Nat.not_lt.mpr g1)
