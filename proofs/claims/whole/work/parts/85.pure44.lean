/-! gather, findCongruence, congruence -/
theorem zer_BD (n : Nat) : BD (List.replicate n 0) := by
  intro i
  rw [List.getD_eq_getElem?_getD, List.getElem?_replicate]
  by_cases q : i < n
  · rw [if_pos q]; exact Nat.zero_le _
  · rw [if_neg q]; exact Nat.zero_le _
theorem zer_get (n i : Nat) : (List.replicate n 0).getD i 0 = 0 := by have := zer_BD n i; rw [List.getD_eq_getElem?_getD, List.getElem?_replicate]; by_cases q : i < n <;> simp [q]
/-- the lines of the congruences, in order -/
def cgL (tb : Nat → Nat → Int) (n : Nat) (ar : List Nat) : List (List Nat) := (sq (nxC (n - 1)) 877 (List.replicate n 0)).filter (agB tb n ar)
theorem sq_all {nx : List Nat → Option (List Nat)} {P : List Nat → Prop} (hs : ∀ l l', P l → nx l = some l' → P l') : ∀ (m : Nat) (l : List Nat), P l → ∀ x ∈ sq nx m l, P x
  | 0, l, _, x, hx => absurd hx (by simp [sq])
  | m + 1, l, hl, x, hx => by
    simp only [sq] at hx
    rcases List.mem_cons.mp hx with z | z
    · rw [z]; exact hl
    · cases q : nx l with
      | none => rw [q] at z; exact absurd z (by simp)
      | some l' =>
        rw [q] at z
        exact sq_all hs m l' (hs l l' hl q) x z
theorem cgL_ok {tb : Nat → Nat → Int} {n : Nat} {ar : List Nat} (hn : 1 ≤ n ∧ n ≤ 7) : ∀ x ∈ cgL tb n ar, x.length = n ∧ BD x ∧ lnB n x = true ∧ agB tb n ar x = true := by
  intro x hx
  obtain ⟨h1, h2⟩ := List.mem_filter.mp hx
  have h3 := sq_all (nx := nxC (n - 1)) (P := fun l => l.length = n ∧ BD l) (fun l l' hl e => by
    obtain ⟨a1, a2⟩ := nxC_len (n - 1) l l' (by omega) hl.2 e
    exact ⟨by omega, a2⟩) 877 (List.replicate n 0) ⟨List.length_replicate, zer_BD n⟩ x h1
  rw [← sq_fil n (by omega) hn.1] at h1
  exact ⟨h3.1, h3.2, (List.mem_filter.mp h1).2, h2⟩
theorem cgL_M {tb : Nat → Nat → Int} {n : Nat} {ar : List Nat} (hn : 1 ≤ n ∧ n ≤ 7) : (sq (nxM n) 5040 (List.replicate n 0)).filter (fun l => lnB n l && agB tb n ar l) = cgL tb n ar := by
  unfold cgL
  rw [← sq_fil n (by omega) hn.1, List.filter_filter]
  congr 1
  funext l
  rw [Bool.and_comm]
section GA
variable {F A d n : Nat} {ar : List Nat} {tb : Nat → Nat → Int}
theorem gath_L (hF : 9 ≤ F) (hA9 : 117 ≤ A) (hk : kt A = 0 + 3) (hw : WF n ar tb) {k : HF → RO} : ∀ (m : Nat) (l : List Nat) (i N c : Nat) (h : HF), sqE (nxC (n - 1)) m l = true → i + m = 877 → m + 1 ≤ N → c ≤ i → LN h 96 l → l.length = n → BD l → h 94 4 = (A : Int) → RepC h A n ar tb → (∀ x ∈ sq (nxC (n - 1)) m l, lnB n x = true) → h 94 1 = (c : Int) → ∃ h', LX2_gather_22 F 94 k N 1 (i : Int) h = k h' ∧ h' 94 1 = ((c + ((sq (nxC (n - 1)) m l).filter (agB tb n ar)).length : Nat) : Int) ∧ (∀ j x, ((sq (nxC (n - 1)) m l).filter (agB tb n ar))[j]? = some x → h' 95 (c + j) = ((cdR x 0 0 n : Nat) : Int)) ∧ (∀ j, j < c → h' 95 j = h 95 j) ∧ ∀ c' i', c' ≠ 95 → c' ≠ 96 → (c' ≠ 94 ∨ i' ≠ 1) → h' c' i' = h c' i' := by
  have hn := hw.1
  have k95 : kl 95 = 877 := by decide +kernel
  have k96 : kl 96 = 7 := by decide +kernel
  intro m
  induction m with
  | zero =>
    intro l i N c h hE
    exact absurd hE (by simp [sqE])
  | succ m ih =>
    intro l i N c h hE hi hN hci hL hl hB hA hr hall hc
    obtain ⟨N, rfl⟩ : ∃ M, N = M + 1 := ⟨N - 1, by omega⟩
    have hln : lnB n l = true := hall l (by simp [sq])
    have h6 : ∀ i, i < n → l.getD i 0 < 7 := fun i hi => by have := hB i; omega
    rw [LX2_gather_22, if_pos (by omega), if_neg (by decide), clash_eq hF hA hk hw hr hL hl hB, zbd_some]
    simp only [zjn_eq, zlet_eq, zgf, zpf]
    rw [wr_s (by omega)]
    -- the part behind: from h2 (with c2 found), next line
    have tail : ∀ (h2 : HF) (c2 : Nat), c2 ≤ i + 1 → LN h2 96 l → h2 94 4 = (A : Int) → RepC h2 A n ar tb → h2 94 1 = (c2 : Int) → ∃ h', (zbd (fX2_nextPartition F 94 h2) fun r3 h => LX2_gather_22 F 94 k N r3 ((i + 1 : Nat) : Int) h) = k h' ∧ h' 94 1 = ((c2 + ((match nxC (n - 1) l with | none => [] | some l' => sq (nxC (n - 1)) m l').filter (agB tb n ar)).length : Nat) : Int) ∧ (∀ j x, ((match nxC (n - 1) l with | none => [] | some l' => sq (nxC (n - 1)) m l').filter (agB tb n ar))[j]? = some x → h' 95 (c2 + j) = ((cdR x 0 0 n : Nat) : Int)) ∧ (∀ j, j < c2 → h' 95 j = h2 95 j) ∧ ∀ c' i', c' ≠ 95 → c' ≠ 96 → (c' ≠ 94 ∨ i' ≠ 1) → h' c' i' = h2 c' i' := by
      intro h2 c2 hc2 hL2 hA2 hr2 hf2
      obtain ⟨h3, e3, n3, f3⟩ := nextPart_eq (F := F) (A := A) (h := h2) (l := l) hF (by omega) (by omega) hA2 (by rw [hr2.1, hl]) hL2 hB
      rw [hl] at e3 n3
      rw [e3, zbd_some]
      cases q : nxC (n - 1) l with
      | none =>
        obtain ⟨N, rfl⟩ : ∃ M, N = M + 1 := ⟨N - 1, by omega⟩
        refine ⟨h3, ?_, by rw [f3 _ _ (by decide), hf2]; rfl, fun j x e => absurd e (by simp), fun j hj => f3 _ _ (by decide), fun c' i' h1 h2 h3 => f3 _ _ h2⟩
        show LX2_gather_22 F 94 k (N + 1) 0 ((i + 1 : Nat) : Int) h3 = _
        rw [LX2_gather_22]
        by_cases z : ((i + 1 : Nat) : Int) < 877
        · rw [if_pos z, if_pos rfl]
        · rw [if_neg z]
      | some l' =>
        obtain ⟨a1, a2⟩ := nxC_len (n - 1) l l' (by omega) hB q
        have hE' : sqE (nxC (n - 1)) m l' = true := by
          simp only [sqE] at hE
          rw [q] at hE
          exact hE
        obtain ⟨h', x1, x2, x3, x4, x5⟩ := ih l' (i + 1) N c2 h3 hE' (by omega) (by omega) hc2 (n3 l' q) (by omega) a2 (by rw [f3 _ _ (by decide)]; exact hA2) (RepC_keep (fun i k hi => f3 _ _ (by omega)) hr2) (fun x hx => hall x (by simp only [sq]; rw [q]; exact List.mem_cons_of_mem _ hx)) (by rw [f3 _ _ (by decide)]; exact hf2)
        exact ⟨h', x1, x2, x3, fun j hj => by rw [x4 j hj, f3 _ _ (by decide)], fun c' i' h1 h2 h3 => by rw [x5 c' i' h1 h2 h3, f3 _ _ h2]⟩
    have es : sq (nxC (n - 1)) (m + 1) l = l :: (match nxC (n - 1) l with | none => [] | some l' => sq (nxC (n - 1)) m l') := rfl
    rw [es, List.filter_cons]
    by_cases q : agB tb n ar l = true
    · have hno := (clash_ag hw hB hln).mpr q
      rw [hno, if_pos (show clI none = -1 from rfl), if_pos q, hc, zgd_at hA, hr.1, show fX11_encode F (94 + 2) (n : Int) h = _ from encode_eq (F := F) hF k96 hL hl hn.2 h6, zbd_some, zwr_ok (a := 94 + 1) ⟨by omega, by rw [show kl (94 + 1) = 877 from k95]; omega⟩, Int.toNat_natCast, stp_ne (show (94 : Nat) ≠ 94 + 1 ∨ (1 : Nat) ≠ c from Or.inl (by decide)), hc, wr_s (by omega)]
      obtain ⟨h', x1, x2, x3, x4, x5⟩ := tail (stp (stp h (94 + 1) c ((cdR l 0 0 n : Nat) : Int)) 94 1 ((c + 1 : Nat) : Int)) (c + 1) (by omega) (LN_keep (fun i => by rw [stp_ne (by omega), stp_ne (by omega)]) hL) (by rw [stp_ne (by omega), stp_ne (by omega)]; exact hA) (RepC_keep (fun i k hi => by rw [stp_ne (by omega), stp_ne (by omega)]) hr) (by rw [stp_eq])
      refine ⟨h', x1, by rw [x2]; simp only [List.length_cons]; omega, fun j x e => ?_, fun j hj => by rw [x4 j (by omega), stp_ne (by omega), stp_ne (by omega)], fun c' i' h1 h2 h3 => by rw [x5 c' i' h1 h2 h3, stp_ne (by omega), stp_ne (by omega)]⟩
      cases j with
      | zero =>
        obtain rfl : l = x := by simpa using e
        rw [Nat.add_zero, x4 c (by omega), stp_ne (by omega), stp_eq]
      | succ j =>
        have := x3 j x (by simpa using e)
        rw [show c + (j + 1) = c + 1 + j by omega]
        exact this
    · have hne : clo1 tb n ar l 1 (n - 1) ≠ none := fun z => q ((clash_ag hw hB hln).mp z)
      have hcl : clI (clo1 tb n ar l 1 (n - 1)) ≠ -1 := by
        cases z : clo1 tb n ar l 1 (n - 1) with
        | none => exact absurd z hne
        | some p => show ((7 * p.1 + p.2 : Nat) : Int) ≠ -1; omega
      rw [if_neg hcl, if_neg q]
      exact tail h c (by omega) hL hA hr hc
theorem gather_eq {h : HF} (hF : 900 ≤ F) (hA9 : 117 ≤ A) (hk : kt A = 0 + 3) (hw : WF n ar tb) (hr : RepC h A n ar tb) : ∃ h', fX2_gather F 94 A h = some (0, h') ∧ h' 94 4 = (A : Int) ∧ h' 94 1 = (((cgL tb n ar).length : Nat) : Int) ∧ (∀ j x, (cgL tb n ar)[j]? = some x → h' 95 j = ((cdR x 0 0 n : Nat) : Int)) ∧ ∀ c' i', c' ≠ 95 → c' ≠ 96 → (c' ≠ 94 ∨ (i' ≠ 1 ∧ i' ≠ 4)) → h' c' i' = h c' i' := by
  have hn := hw.1
  have k96 : kl 96 = 7 := by decide +kernel
  have fl : fJ7_fill_53178 F (94 + 2) 0 (stp (stp h 94 4 (A : Int)) 94 1 0) = some (0, fil (stp (stp h 94 4 (A : Int)) 94 1 0) 96 0 7 0) := by
    unfold fJ7_fill_53178
    simp only [zjn_eq, zlet_eq]
    rw [show kl (94 + 2) = 7 from k96]
    have L : ∀ (m i N : Nat) (h : HF), i + m = 7 → m + 1 ≤ N → LJ7_fill_53178_5 F (94 + 2) 0 ((7 : Nat) : Int) (fun h => some (0, h)) N (i : Int) h = some (0, fil h 96 i m 0) := by
      intro m
      induction m with
      | zero =>
        intro i N h hi hN
        obtain ⟨N, rfl⟩ : ∃ M, N = M + 1 := ⟨N - 1, by omega⟩
        rw [LJ7_fill_53178_5, if_neg (by omega), fil_0]
      | succ m ih =>
        intro i N h hi hN
        obtain ⟨N, rfl⟩ : ∃ M, N = M + 1 := ⟨N - 1, by omega⟩
        rw [LJ7_fill_53178_5, if_pos (by omega), zwr_ok (a := 94 + 2) ⟨by omega, by rw [show kl (94 + 2) = 7 from k96]; omega⟩, Int.toNat_natCast, zlet_eq, wr_s (by omega), ih (i + 1) N _ (by omega) (by omega), show (94 + 2 : Nat) = 96 from rfl, fil_succ]
    exact L 7 0 F _ (by omega) (by omega)
  generalize hg : fil (stp (stp h 94 4 (A : Int)) 94 1 0) 96 0 7 0 = g at fl
  have gL : LN g 96 (List.replicate n 0) := fun i hi => by
    rw [List.length_replicate] at hi
    rw [zer_get, ← hg, fil_in (by omega)]; rfl
  obtain ⟨h', x1, x2, x3, x4, x5⟩ := gath_L (F := F) (A := A) (k := fun h => some (0, h)) (by omega) hA9 hk hw 877 (List.replicate n 0) 0 F 0 g (sq_endC n (by omega) hn.1) (by omega) (by omega) (by omega) gL List.length_replicate (zer_BD n) (by rw [← hg, fil_off (by omega), stp_ne (by omega), stp_eq]) (RepC_keep (fun i k hi => by rw [← hg, fil_off (by omega), stp_ne (by omega), stp_ne (by omega)]) hr) (fun x hx => by
      rw [← sq_fil n (by omega) hn.1] at hx
      exact (List.mem_filter.mp hx).2) (by rw [← hg, fil_off (by omega), stp_eq]; rfl)
  refine ⟨h', ?_, ?_, by rw [x2, Nat.zero_add]; rfl, fun j x e => by rw [← x3 j x e, Nat.zero_add], fun c' i' h1 h2 h3 => by rw [x5 c' i' h1 h2 (by omega), ← hg, fil_off (by omega), stp_ne (by omega), stp_ne (by omega)]⟩
  · unfold fX2_gather
    simp only [zjn_eq, zpf]
    rw [fl, zbd_some]
    exact x1
  · rw [x5 94 4 (by decide) (by decide) (by decide), ← hg, fil_off (by omega), stp_ne (by omega), stp_eq]
theorem find_L (hF : 9 ≤ F) (hd : d < 10) (hw : WF n ar tb) {u2 : Int} {k70 k44 : HF → RO} : ∀ (m : Nat) (l : List Nat) (N c : Nat) (h : HF), sqE (nxM n) m l = true → m + 1 ≤ N → c + m ≤ 6000 → LN h 207 l → l.length = n → BD l → RepM h 184 185 186 187 d n ar tb → h 181 43 = (c : Int) → (u2 < 0 ∨ (c : Int) ≤ u2) → (∃ (h' : HF) (j : Nat) (x : List Nat), ((sq (nxM n) m l).filter (fun l => lnB n l && agB tb n ar l))[j]? = some x ∧ u2 = ((c + j : Nat) : Int) ∧ LX12_findCongruence_11 F 181 (d : Int) u2 k70 k44 N 1 h = k44 h' ∧ LN h' 207 x ∧ ∀ c' i', c' ≠ 207 → (c' ≠ 181 ∨ i' ≠ 43) → h' c' i' = h c' i') ∨ (∃ h' : HF, (u2 < 0 ∨ ((c + ((sq (nxM n) m l).filter (fun l => lnB n l && agB tb n ar l)).length : Nat) : Int) ≤ u2) ∧ LX12_findCongruence_11 F 181 (d : Int) u2 k70 k44 N 1 h = k70 h' ∧ h' 181 43 = ((c + ((sq (nxM n) m l).filter (fun l => lnB n l && agB tb n ar l)).length : Nat) : Int) ∧ ∀ c' i', c' ≠ 207 → (c' ≠ 181 ∨ i' ≠ 43) → h' c' i' = h c' i') := by
  have hn := hw.1
  intro m
  induction m with
  | zero =>
    intro l N c h hE
    exact absurd hE (by simp [sqE])
  | succ m ih =>
    intro l N c h hE hN hcm hL hl hB hr hc hu
    obtain ⟨N, rfl⟩ : ∃ M, N = M + 1 := ⟨N - 1, by omega⟩
    have tail : ∀ (h2 : HF) (c2 : Nat), c2 ≤ c + 1 → LN h2 207 l → RepM h2 184 185 186 187 d n ar tb → h2 181 43 = (c2 : Int) → (u2 < 0 ∨ (c2 : Int) ≤ u2) → (∃ (h' : HF) (j : Nat) (x : List Nat), ((match nxM n l with | none => [] | some l' => sq (nxM n) m l').filter (fun l => lnB n l && agB tb n ar l))[j]? = some x ∧ u2 = ((c2 + j : Nat) : Int) ∧ (zrd h2 (181 + 3) (d : Int) fun x4 => zbd (fX12_nextLine F 181 x4 h2) fun r5 h => LX12_findCongruence_11 F 181 (d : Int) u2 k70 k44 N r5 h) = k44 h' ∧ LN h' 207 x ∧ ∀ c' i', c' ≠ 207 → (c' ≠ 181 ∨ i' ≠ 43) → h' c' i' = h2 c' i') ∨ (∃ h' : HF, (u2 < 0 ∨ ((c2 + ((match nxM n l with | none => [] | some l' => sq (nxM n) m l').filter (fun l => lnB n l && agB tb n ar l)).length : Nat) : Int) ≤ u2) ∧ (zrd h2 (181 + 3) (d : Int) fun x4 => zbd (fX12_nextLine F 181 x4 h2) fun r5 h => LX12_findCongruence_11 F 181 (d : Int) u2 k70 k44 N r5 h) = k70 h' ∧ h' 181 43 = ((c2 + ((match nxM n l with | none => [] | some l' => sq (nxM n) m l').filter (fun l => lnB n l && agB tb n ar l)).length : Nat) : Int) ∧ ∀ c' i', c' ≠ 207 → (c' ≠ 181 ∨ i' ≠ 43) → h' c' i' = h2 c' i') := by
      intro h2 c2 hc2 hL2 hr2 hf2 hu2
      obtain ⟨h3, e3, n3, f3⟩ := nextLine_eq (F := F) (h := h2) (l := l) hF (by omega) hL2 hB
      rw [hl] at e3 n3
      rw [msz hd hr2, e3, zbd_some]
      cases q : nxM n l with
      | none =>
        obtain ⟨N, rfl⟩ : ∃ M, N = M + 1 := ⟨N - 1, by omega⟩
        refine Or.inr ⟨h3, hu2, ?_, by rw [f3 _ _ (by decide), hf2]; rfl, fun c' i' h1 _ => f3 _ _ h1⟩
        show LX12_findCongruence_11 F 181 (d : Int) u2 k70 k44 (N + 1) 0 h3 = _
        rw [LX12_findCongruence_11, if_pos rfl]
      | some l' =>
        obtain ⟨a1, a2⟩ := nxM_len n l l' (by omega) hB q
        have hE' : sqE (nxM n) m l' = true := by
          simp only [sqE] at hE
          rw [q] at hE
          exact hE
        rcases ih l' N c2 h3 hE' (by omega) (by omega) (n3 l' q) (by omega) a2 (RepM_keep (fun k => ⟨f3 _ _ (by decide), f3 _ _ (by decide), f3 _ _ (by decide), f3 _ _ (by decide)⟩) hr2) (by rw [f3 _ _ (by decide)]; exact hf2) hu2 with ⟨h', j, x, x1, x2, x3, x4, x5⟩ | ⟨h', x1, x2, x3, x4⟩
        · exact Or.inl ⟨h', j, x, x1, x2, x3, x4, fun c' i' h1 h2 => by rw [x5 c' i' h1 h2, f3 _ _ h1]⟩
        · exact Or.inr ⟨h', x1, x2, x3, fun c' i' h1 h2 => by rw [x4 c' i' h1 h2, f3 _ _ h1]⟩
    have es : sq (nxM n) (m + 1) l = l :: (match nxM n l with | none => [] | some l' => sq (nxM n) m l') := rfl
    rw [es, List.filter_cons, LX12_findCongruence_11, if_neg (show ¬ (1 : Int) = 0 by decide), msz hd hr, isLine_eq hF hL hl hn.2 hB, zbd_some]
    simp only [zjn_eq, zgf, zpf]
    cases q1 : lnB n l with
    | false =>
      rw [bi_f, if_pos (show (0 : Int) = 0 from rfl)]
      exact tail h c (by omega) hL hr hc hu
    | true =>
      rw [bi_t, if_neg (show ¬ (1 : Int) = 0 by decide), agrees_eq hF hd hw hr hL hl hB, zbd_some]
      cases q2 : agB tb n ar l with
      | false =>
        rw [bi_f, if_pos (show (0 : Int) = 0 from rfl)]
        exact tail h c (by omega) hL hr hc hu
      | true =>
        rw [bi_t, if_neg (show ¬ (1 : Int) = 0 by decide), hc]
        by_cases q3 : (c : Int) = u2
        · rw [if_pos q3]
          exact Or.inl ⟨h, 0, l, rfl, by omega, rfl, hL, fun _ _ _ _ => rfl⟩
        · rw [if_neg q3, wr_s (by omega)]
          rcases tail (stp h 181 43 ((c + 1 : Nat) : Int)) (c + 1) (Nat.le_refl _) (LN_keep (fun i => stp_ne (by omega)) hL) (RepM_keep (fun k => ⟨stp_ne (by omega), stp_ne (by omega), stp_ne (by omega), stp_ne (by omega)⟩) hr) (by rw [stp_eq]) (by omega) with ⟨h', j, x, x1, x2, x3, x4, x5⟩ | ⟨h', x1, x2, x3, x4⟩
          · exact Or.inl ⟨h', j + 1, x, by simpa using x1, by omega, x3, x4, fun c' i' h1 h2 => by rw [x5 c' i' h1 h2, stp_ne (by omega)]⟩
          · refine Or.inr ⟨h', ?_, x2, ?_, fun c' i' h1 h2 => by rw [x4 c' i' h1 h2, stp_ne (by omega)]⟩
            · simp only [Bool.and_self, if_true, List.length_cons]
              rcases x1 with z | z
              · exact Or.inl z
              · exact Or.inr (by omega)
            · simp only [Bool.and_self, if_true, List.length_cons]
              rw [x3]; omega
theorem firstLine_eq {h : HF} (hF : 9 ≤ F) : fX12_firstLine F 181 h = some (0, fil h 207 0 7 0) := by
  have L : ∀ (m i N : Nat) (h : HF), i + m = 7 → m + 1 ≤ N → LX12_firstLine_2 F 181 (fun h => some (0, h)) N (i : Int) h = some (0, fil h 207 i m 0) := by
    intro m
    induction m with
    | zero =>
      intro i N h hi hN
      obtain ⟨N, rfl⟩ : ∃ M, N = M + 1 := ⟨N - 1, by omega⟩
      rw [LX12_firstLine_2, if_neg (by omega), fil_0]
    | succ m ih =>
      intro i N h hi hN
      obtain ⟨N, rfl⟩ : ∃ M, N = M + 1 := ⟨N - 1, by omega⟩
      rw [LX12_firstLine_2, if_pos (by omega), wtm26 (by omega), zlet_eq, wr_s (by omega), ih (i + 1) N _ (by omega) (by omega), fil_succ]
  unfold fX12_firstLine
  simp only [zjn_eq]
  exact L 7 0 F h (by omega) (by omega)
/-- congruence u of the reference: found in the list, or not there -/
theorem findC_eq {h : HF} {u : Int} (hF : 6000 ≤ F) (hd : d < 10) (hw : WF n ar tb) (hr : RepM h 184 185 186 187 d n ar tb) : (∃ (h' : HF) (j : Nat) (x : List Nat), (cgL tb n ar)[j]? = some x ∧ u = (j : Int) ∧ fX12_findCongruence F 181 (d : Int) u h = some (1, h') ∧ LN h' 207 x ∧ ∀ c' i', c' ≠ 207 → (c' ≠ 181 ∨ i' ≠ 43) → h' c' i' = h c' i') ∨ (∃ h' : HF, (u < 0 ∨ (((cgL tb n ar).length : Nat) : Int) ≤ u) ∧ fX12_findCongruence F 181 (d : Int) u h = some (0, h') ∧ h' 181 43 = (((cgL tb n ar).length : Nat) : Int) ∧ ∀ c' i', c' ≠ 207 → (c' ≠ 181 ∨ i' ≠ 43) → h' c' i' = h c' i') := by
  have hn := hw.1
  generalize hg : fil (stp h 181 43 0) 207 0 7 0 = g
  have gf : ∀ c' i', c' ≠ 207 → (c' ≠ 181 ∨ i' ≠ 43) → g c' i' = h c' i' := fun c' i' h1 h2 => by rw [← hg, fil_off (by omega), stp_ne h2]
  have e0 : ∀ k70 k44 : HF → RO, True := fun _ _ => trivial
  have red : fX12_findCongruence F 181 (d : Int) u h = LX12_findCongruence_11 F 181 (d : Int) u (fun h => zrz 0 h) (fun h => zrz 1 h) F 1 g := by
    unfold fX12_findCongruence
    simp only [zjn_eq, zpf]
    rw [firstLine_eq (by omega), zbd_some, hg]
  have gL : LN g 207 (List.replicate n 0) := fun i hi => by
    rw [List.length_replicate] at hi
    rw [zer_get, ← hg, fil_in (by omega)]; rfl
  have := find_L (F := F) (d := d) (u2 := u) (k70 := fun h => zrz 0 h) (k44 := fun h => zrz 1 h) (by omega) hd hw 5040 (List.replicate n 0) F 0 g (sq_endM n (by omega) hn.1) (by omega) (by omega) gL List.length_replicate (zer_BD n) (RepM_keep (fun k => ⟨gf _ _ (by decide) (by omega), gf _ _ (by decide) (by omega), gf _ _ (by decide) (by omega), gf _ _ (by decide) (by omega)⟩) hr) (by rw [← hg, fil_off (by omega), stp_eq]; rfl) (by omega)
  rw [cgL_M hn] at this
  rw [red]
  rcases this with ⟨h', j, x, x1, x2, x3, x4, x5⟩ | ⟨h', x1, x2, x3, x4⟩
  · exact Or.inl ⟨h', j, x, x1, by omega, x3, x4, fun c' i' h1 h2 => by rw [x5 c' i' h1 h2, gf c' i' h1 h2]⟩
  · exact Or.inr ⟨h', by rw [Nat.zero_add] at x1; exact x1, x2, by rw [x3, Nat.zero_add], fun c' i' h1 h2 => by rw [x4 c' i' h1 h2, gf c' i' h1 h2]⟩
end GA
