/-! read: operations of the class -/
theorem arityOf_eq {F : Nat} {b : Int} {h : HF} : fX10_arityOf F b h = some ((match arO b with | none => -1 | some r => (r : Int)), h) := by
  unfold fX10_arityOf arO
  by_cases q1 : b = 98
  · subst q1; rfl
  · rw [if_neg q1]
    by_cases q2 : b = 99
    · subst q2; rfl
    · rw [if_neg q2, if_neg q2]
      by_cases q3 : b = 117
      · subst q3; rfl
      · rw [if_neg q3, if_neg q3, if_neg q1]
theorem tb_ext {t : List Int} {n a : Nat} {l ps : List Nat} {r : Nat} {T : Nat → Nat → Int} (hps : ps.length = l.length) (h1 : ∀ o k, o < l.length → T o k = tbT t ps o k) (h2 : ∀ k, k < pw n r → T l.length k = bA t (a + k) - 48) : ∀ o, o < (l ++ [r]).length → ∀ k, k < pw n ((l ++ [r]).getD o 0) → T o k = tbT t (ps ++ [a]) o k := by
  intro o ho k hk
  simp only [List.length_append, List.length_cons, List.length_nil] at ho
  unfold tbT
  by_cases q : o = l.length
  · subst q
    rw [gd_eq] at hk
    rw [h2 k hk, ← hps, gd_eq]
  · rw [h1 o k (by omega), gd_lt (by omega)]
    rfl
section OC
variable {F n : Nat} {t : List Int}
theorem ops_c (hF : 200 ≤ F) (hn : 1 ≤ n ∧ n ≤ 7) (hb : ∀ b ∈ t, 0 ≤ b ∧ b ≤ 255) (hlt : t.length ≤ 400) {k : HF → RO} : ∀ (f a N : Nat) (l ps : List Nat) (h : HF), f + l.length = 5 → l.length ≤ 4 → f + 2 ≤ N → a + 60 * f ≤ 10000 → TP h 1 1 2 t → h 86 2 = 1 → h 86 3 = (a : Int) → h 86 0 = 0 → ps.length = l.length → (∀ x ∈ l, x ≤ 2) → RepC h 6 n l (tbT t ps) → ∃ h', LX10_readTables_46 F 86 6 k N 1 (l.length : Int) h = k h' ∧ ((rdo t n f a l ps).1 = 0 → h' 86 0 = 0 ∧ RepC h' 6 n (rdo t n f a l ps).2.2.1 (tbT t (rdo t n f a l ps).2.2.2)) ∧ ((rdo t n f a l ps).1 ≠ 0 → h' 86 0 = (((rdo t n f a l ps).1 : Nat) : Int) ∧ h' 86 1 = (((rdo t n f a l ps).2.1 : Nat) : Int)) ∧ ∀ c i, (c < 6 ∨ 9 < c ∨ (c = 8 ∧ i = 0)) → (c ≠ 86 ∨ (i ≠ 0 ∧ i ≠ 1 ∧ i ≠ 3)) → h' c i = h c i := by
  intro f
  induction f with
  | zero =>
    intro a N l ps h hf hl
    omega
  | succ f ih =>
    intro a N l ps h hf hl hN ha ht h2 h3 h0 hps hx hr
    obtain ⟨N, rfl⟩ : ∃ M, N = M + 1 := ⟨N - 1, by omega⟩
    have zg : ∀ {g : HF} (f : Nat → RO), g 86 2 = 1 → zgd g 86 2 f = f 1 := fun f e => zgd_at e
    rw [LX10_readTables_46, if_neg (by omega), if_neg (by decide)]
    simp only [zgf]
    rw [h3, zg _ h2, ht.1]
    by_cases q0 : a < t.length
    · rw [if_pos (by omega)]
      -- what a failure leaves
      have bad : ∀ (kd pl : Nat) (g : HF), kd ≠ 0 → rdo t n (f + 1) a l ps = (kd, pl, l, ps) → (∀ c i, (c < 6 ∨ 9 < c ∨ (c = 8 ∧ i = 0)) → (c ≠ 86 ∨ (i ≠ 0 ∧ i ≠ 1 ∧ i ≠ 3)) → g c i = h c i) → g 86 0 = (kd : Int) → g 86 1 = (pl : Int) → fX10_readOperation F 86 6 h = some (0, g) → ∃ h', (zbd (fX10_readOperation F 86 6 h) fun r9 h => zlet (wr ((l.length : Int) + 1)) fun x10 => LX10_readTables_46 F 86 6 k N r9 x10 h) = k h' ∧ ((rdo t n (f + 1) a l ps).1 = 0 → h' 86 0 = 0 ∧ RepC h' 6 n (rdo t n (f + 1) a l ps).2.2.1 (tbT t (rdo t n (f + 1) a l ps).2.2.2)) ∧ ((rdo t n (f + 1) a l ps).1 ≠ 0 → h' 86 0 = (((rdo t n (f + 1) a l ps).1 : Nat) : Int) ∧ h' 86 1 = (((rdo t n (f + 1) a l ps).2.1 : Nat) : Int)) ∧ ∀ c i, (c < 6 ∨ 9 < c ∨ (c = 8 ∧ i = 0)) → (c ≠ 86 ∨ (i ≠ 0 ∧ i ≠ 1 ∧ i ≠ 3)) → h' c i = h c i := by
        intro kd pl g hk0 er fg g0 g1 eo
        obtain ⟨N, rfl⟩ : ∃ M, N = M + 1 := ⟨N - 1, by omega⟩
        rw [er]
        refine ⟨g, ?_, fun z => absurd z hk0, fun _ => ⟨g0, g1⟩, fg⟩
        rw [eo, zbd_some, zlet_eq, LX10_readTables_46]
        by_cases z : 4 < wr ((l.length : Int) + 1)
        · rw [if_pos z]
        · rw [if_neg z, if_pos rfl]
      have fl : ∀ (g : HF) (pl kd : Int), fX10_failAt F 86 pl kd g = some (0, stp (stp g 86 0 kd) 86 1 pl) := fun g pl kd => rfl
      by_cases q1 : bA t a = 59
      · by_cases q2 : l.length < 4
        · have b1 : TP (stp h 86 3 ((a + 1 : Nat) : Int)) 1 1 2 t := TP_keep ht (by rw [stp_ne (by omega)]) (fun i => by rw [stp_ne (by omega)])
          cases q3 : arO (bA t (a + 1)) with
          | none =>
            refine bad 1 (a + 1) (stp (stp (stp h 86 3 ((a + 1 : Nat) : Int)) 86 0 1) 86 1 ((a + 1 : Nat) : Int)) (by decide) (by simp only [rdo]; rw [if_pos q0, if_pos q1, if_pos q2, q3]) (fun c i c1 c2 => by rw [stp_ne (by omega), stp_ne (by omega), stp_ne (by omega)]) (by rw [stp_ne (Or.inr (by decide)), stp_eq]; rfl) (by rw [stp_eq]) ?_
            unfold fX10_readOperation
            rw [zg _ h2]
            simp only [zgf, zpf, zjn_eq]
            rw [h3, byteAt_c ht hlt, zbd_some, if_pos q1, hr.2.1, if_pos (by omega), h3, wr_s (by omega), zg _ (by rw [stp_ne (by omega)]; exact h2), stp_eq, byteAt_c b1 hlt, zbd_some, arityOf_eq, zbd_some, q3]
            show (if (-1 : Int) = -1 then _ else _) = _
            rw [if_pos rfl, fl, zbd_some, zrz_0, stp_eq]
          | some r =>
            have hr2 := arO_le q3
            have hp := pw_le hn.2 hr2
            have hg0 : RepC (stp (stp h 86 3 ((a + 1 : Nat) : Int)) 86 3 ((a + 2 : Nat) : Int)) 6 n l (tbT t ps) := RepC_keep (fun i k hi => by rw [stp_ne (by omega), stp_ne (by omega)]) hr
            obtain ⟨g, eg, rg, fg⟩ := addOp_eq (F := F) (A := 6) (r := r) hF (by decide) hn q2 hr2 hx hg0
            have gk : ∀ c i, (c < 6 ∨ 9 < c) → g c i = stp (stp h 86 3 ((a + 1 : Nat) : Int)) 86 3 ((a + 2 : Nat) : Int) c i := fun c i z => fg c i (Or.inl (by omega))
            have hll : (l ++ [r]).length = l.length + 1 := by simp
            have h22 : ∀ o, o < (l ++ [r]).length → (l ++ [r]).getD o 0 ≤ 2 := fun o ho => by
              rw [hll] at ho
              by_cases z : o = l.length
              · subst z; rw [gd_eq]; exact hr2
              · rw [gd_lt (by omega), List.getD_eq_getElem?_getD, List.getElem?_eq_getElem (show o < l.length by omega)]
                exact hx _ (List.getElem_mem _)
            have hpe : pw n ((l ++ [r]).getD l.length 0) = pw n r := by rw [gd_eq]
            obtain ⟨h', x1, x2, x3, x4⟩ := cells_c (F := F) (n := n) (t := t) (l := l ++ [r]) (o := l.length) (k := fun x h => zrz x h) hn hb hlt (by omega) h22 (by omega) (pw n r) 0 (a + 2) F _ g (by omega) (by omega) (by omega) (TP_keep ht (by rw [gk _ _ (by omega), stp_ne (by omega), stp_ne (by omega)]) (fun i => by rw [gk _ _ (by omega), stp_ne (by omega), stp_ne (by omega)])) (by rw [gk _ _ (by omega), stp_ne (by omega), stp_ne (by omega)]; exact h2) (by rw [gk _ _ (by omega), stp_eq]) rg
            have op : fX10_readOperation F 86 6 h = some (bi (decide ((rdc t n (a + 2) (pw n r)).2 = 0)), h') := by
              unfold fX10_readOperation
              rw [zg _ h2]
              simp only [zgf, zpf, zjn_eq]
              rw [h3, byteAt_c ht hlt, zbd_some, if_pos q1, hr.2.1, if_pos (by omega), h3, wr_s (by omega), zg _ (by rw [stp_ne (by omega)]; exact h2), stp_eq, byteAt_c b1 hlt, zbd_some, arityOf_eq, zbd_some, q3]
              show (if (r : Int) = -1 then _ else _) = _
              have cc : fX0_cellCount F 6 (stp (stp h 86 3 ((a + 1 : Nat) : Int)) 86 3 ((a + 2 : Nat) : Int)) = some (((sto n l l.length : Nat) : Int), stp (stp h 86 3 ((a + 1 : Nat) : Int)) 86 3 ((a + 2 : Nat) : Int)) := by
                obtain ⟨-, k1, -, k2, -, k3⟩ := zl_0 6 (by decide)
                unfold fX0_cellCount
                simp only [zgf]
                rw [hg0.2.1, zrd_ok (a := 6 + 2) ⟨by omega, by rw [k2]; omega⟩, Int.toNat_natCast, hg0.2.2.2.2.1 _ (Nat.le_refl _)]
              rw [if_neg (by omega), stp_eq, wr_s (by omega), show a + 1 + 1 = a + 2 by omega, cc, zbd_some, eg, zbd_some]
              have := x1
              rw [sto_app l.length (Nat.le_refl _), Nat.add_zero] at this
              refine this.trans ?_
              cases decide ((rdc t n (a + 2) (pw n r)).2 = 0) <;> rfl
            by_cases q4 : (rdc t n (a + 2) (pw n r)).2 = 0
            · obtain ⟨y1, y0, T', y2, y3, y4⟩ := x2 q4
              have er : rdo t n (f + 1) a l ps = rdo t n f (a + 2 + pw n r) (l ++ [r]) (ps ++ [a + 2]) := by simp only [rdo]; rw [if_pos q0, if_pos q1, if_pos q2, q3]; show (if _ then _ else _) = _; rw [if_pos q4]
              have rT : RepC h' 6 n (l ++ [r]) (tbT t (ps ++ [a + 2])) := RepC_ext (tb_ext hps (fun o k ho => by rw [y4 o k (Or.inl (by omega)), if_pos ho]) (fun k hk => by have := y3 k hk; rw [Nat.zero_add] at this; exact this)) y2
              obtain ⟨h5, z1, z2, z3, z4⟩ := ih (a + 2 + pw n r) N (l ++ [r]) (ps ++ [a + 2]) h' (by omega) (by omega) (by omega) (by omega) (TP_keep ht (by rw [x4 _ _ (by omega) (by omega), gk _ _ (by omega), stp_ne (by omega), stp_ne (by omega)]) (fun i => by rw [x4 _ _ (by omega) (by omega), gk _ _ (by omega), stp_ne (by omega), stp_ne (by omega)])) (by rw [x4 _ _ (by omega) (by omega), gk _ _ (by omega), stp_ne (by omega), stp_ne (by omega)]; exact h2) y1 (by rw [y0, gk _ _ (by omega), stp_ne (by omega), stp_ne (by omega)]; exact h0) (by simp; omega) (by
                intro x hx'
                rcases List.mem_append.mp hx' with z | z
                · exact hx x z
                · have := List.mem_singleton.mp z; omega) rT
              rw [er]
              refine ⟨h5, ?_, z2, z3, fun c i c1 c2 => ?_⟩
              · rw [op, zbd_some, zlet_eq, wr_s (by omega), decide_eq_true q4, ← hll]
                exact z1
              · rw [z4 c i c1 c2, x4 c i (by omega) c2, fg c i (by omega), stp_ne (by omega), stp_ne (by omega)]
            · obtain ⟨y1, y2⟩ := x3 q4
              refine bad (rdc t n (a + 2) (pw n r)).2 (a + 2 + (rdc t n (a + 2) (pw n r)).1) h' q4 (by simp only [rdo]; rw [if_pos q0, if_pos q1, if_pos q2, q3]; show (if _ then _ else _) = _; rw [if_neg q4]) (fun c i c1 c2 => by rw [x4 c i (by omega) c2, fg c i (by omega), stp_ne (by omega), stp_ne (by omega)]) y1 y2 ?_
              rw [op, decide_eq_false q4]; rfl
        · refine bad 3 a (stp (stp h 86 0 3) 86 1 (a : Int)) (by decide) (by simp only [rdo]; rw [if_pos q0, if_pos q1, if_neg q2]) (fun c i c1 c2 => by rw [stp_ne (by omega), stp_ne (by omega)]) (by rw [stp_ne (Or.inr (by decide)), stp_eq]; rfl) (by rw [stp_eq]) ?_
          unfold fX10_readOperation
          rw [zg _ h2]
          simp only [zgf, zpf, zjn_eq]
          rw [h3, byteAt_c ht hlt, zbd_some, if_pos q1, hr.2.1, if_neg (by omega), h3, fl, zbd_some, zrz_0]
      · refine bad 1 a (stp (stp h 86 0 1) 86 1 (a : Int)) (by decide) (by simp only [rdo]; rw [if_pos q0, if_neg q1]) (fun c i c1 c2 => by rw [stp_ne (by omega), stp_ne (by omega)]) (by rw [stp_ne (Or.inr (by decide)), stp_eq]; rfl) (by rw [stp_eq]) ?_
        unfold fX10_readOperation
        rw [zg _ h2]
        simp only [zgf, zpf, zjn_eq]
        rw [h3, byteAt_c ht hlt, zbd_some, if_neg q1, h3, fl, zbd_some, zrz_0]
    · rw [if_neg (by omega)]
      have er : rdo t n (f + 1) a l ps = (0, 0, l, ps) := by simp only [rdo]; rw [if_neg q0]
      rw [er]
      exact ⟨h, rfl, fun _ => ⟨h0, hr⟩, fun z => absurd rfl z, fun _ _ _ _ => rfl⟩
end OC
