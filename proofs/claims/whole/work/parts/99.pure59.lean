/-! read: operations of the reference -/
section OM
variable {F n : Nat} {t : List Int}
theorem ops_m (hF : 200 ≤ F) (hn : 1 ≤ n ∧ n ≤ 7) (hb : ∀ b ∈ t, 0 ≤ b ∧ b ≤ 255) (hlt : t.length ≤ 400) {u1 : Int} {k320 : Int → HF → RO} {K1 K2 K3 : HF → RO} : ∀ (f a N : Nat) (l ps : List Nat) (h : HF), f + l.length = 5 → l.length ≤ 4 → f + 2 ≤ N → a + 60 * f ≤ 10000 → (∀ i, i < t.length → h 182 i = t.getD i 0) → h 181 17 = (a : Int) → ps.length = l.length → (∀ x ∈ l, x ≤ 2) → RepM h 184 185 186 187 8 n l (tbT t ps) → ∃ h', LX12_read_75 F 181 u1 (t.length : Int) (n : Int) k320 K1 K2 K1 K3 K1 N h = (if (rdo t n f a l ps).1 = 0 then k320 (n : Int) h' else if (rdo t n f a l ps).1 = 1 then K1 h' else if (rdo t n f a l ps).1 = 2 then K2 h' else K3 h') ∧ ((rdo t n f a l ps).1 = 0 → RepM h' 184 185 186 187 8 n (rdo t n f a l ps).2.2.1 (tbT t (rdo t n f a l ps).2.2.2)) ∧ ((rdo t n f a l ps).1 ≠ 0 → h' 181 17 = (((rdo t n f a l ps).2.1 : Nat) : Int)) ∧ ∀ c i, (c ≠ 181 ∨ i ≠ 17) → (c ≠ 185 ∨ i < 8) → (c ≠ 186 ∨ i < 32) → (c ≠ 187 ∨ i < 1568) → h' c i = h c i := by
  intro f
  induction f with
  | zero =>
    intro a N l ps h hf hl
    omega
  | succ f ih =>
    intro a N l ps h hf hl hN ha ht h7 hps hx hr
    obtain ⟨N, rfl⟩ : ∃ M, N = M + 1 := ⟨N - 1, by omega⟩
    have o8 : ∀ (g : HF) (m : Nat) (fn : Int → RO), g 185 8 = (m : Int) → zrd g (181 + 4) 8 fn = fn (m : Int) := fun g m fn e => by rw [show (8 : Int) = ((8 : Nat) : Int) from rfl, rdm4 (by decide), e]
    rw [LX12_read_75]
    simp only [zgf]
    rw [h7]
    by_cases q0 : a < t.length
    · rw [if_pos (by omega), byteAt_m ht hlt h7, zbd_some]
      by_cases q1 : bA t a = 59
      · rw [if_pos q1, o8 h l.length _ hr.2.1]
        by_cases q2 : l.length < 4
        · rw [if_neg (by omega)]
          simp only [zpf, zlet_eq, zjn_eq]
          rw [h7, wr_s (by omega), byteAt_m (t := t) (i := a + 1) (fun i hi => by rw [stp_ne (by omega)]; exact ht i hi) hlt (by rw [stp_eq]), zbd_some]
          have key : ∀ r : Nat, arO (bA t (a + 1)) = some r → ∃ h', (zrd (stp h 181 17 ((a + 1 : Nat) : Int)) (181 + 4) 8 fun x19 => zwr (stp h 181 17 ((a + 1 : Nat) : Int)) (181 + 5) (wr (32 + x19)) (r : Int) fun h => LX12_read_215 F 181 u1 (t.length : Int) (n : Int) (r : Int) (fun h => zrd h (181 + 4) 8 fun x21 => zwr h (181 + 4) 8 (wr (x21 + 1)) fun h => LX12_read_75 F 181 u1 (t.length : Int) (n : Int) k320 K1 K2 K1 K3 K1 N h) K1 K2 F 0 (stp h 181 17 (wr (h 181 17 + 1)))) = (if (rdo t n (f + 1) a l ps).1 = 0 then k320 (n : Int) h' else if (rdo t n (f + 1) a l ps).1 = 1 then K1 h' else if (rdo t n (f + 1) a l ps).1 = 2 then K2 h' else K3 h') ∧ ((rdo t n (f + 1) a l ps).1 = 0 → RepM h' 184 185 186 187 8 n (rdo t n (f + 1) a l ps).2.2.1 (tbT t (rdo t n (f + 1) a l ps).2.2.2)) ∧ ((rdo t n (f + 1) a l ps).1 ≠ 0 → h' 181 17 = (((rdo t n (f + 1) a l ps).2.1 : Nat) : Int)) ∧ ∀ c i, (c ≠ 181 ∨ i ≠ 17) → (c ≠ 185 ∨ i < 8) → (c ≠ 186 ∨ i < 32) → (c ≠ 187 ∨ i < 1568) → h' c i = h c i := by
            intro r q3
            have hr2 := arO_le q3
            have hp := pw_le hn.2 hr2
            rw [o8 _ l.length _ (by rw [stp_ne (by omega)]; exact hr.2.1), wr_id (x := 32 + (l.length : Int)) ⟨by omega, by omega⟩, show 32 + (l.length : Int) = ((32 + l.length : Nat) : Int) by omega, wtm5 (by omega), stp_ne (show (181 : Nat) ≠ 186 ∨ (17 : Nat) ≠ 32 + l.length from Or.inl (by decide)), stp_eq, wr_s (by omega), show a + 1 + 1 = a + 2 by omega]
            generalize hg : stp (stp (stp h 181 17 ((a + 1 : Nat) : Int)) 186 (32 + l.length) (r : Int)) 181 17 ((a + 2 : Nat) : Int) = g
            have gk : ∀ c i, (c ≠ 181 ∨ i ≠ 17) → (c ≠ 186 ∨ i ≠ 32 + l.length) → g c i = h c i := fun c i z w => by rw [← hg, stp_ne z, stp_ne w, stp_ne z]
            obtain ⟨h', x1, x2, x3, x4⟩ := cells_m (F := F) (n := n) (t := t) (o := l.length) (r := r) (u1 := u1) (k306 := fun h => zrd h (181 + 4) 8 fun x21 => zwr h (181 + 4) 8 (wr (x21 + 1)) fun h => LX12_read_75 F 181 u1 (t.length : Int) (n : Int) k320 K1 K2 K1 K3 K1 N h) (k248 := K1) (k260 := K2) hn hb hlt q2 hr2 (pw n r) 0 (a + 2) F g (by omega) (by omega) (by omega) (fun i hi => by rw [gk _ _ (by omega) (by omega)]; exact ht i hi) (by rw [← hg, stp_eq]) (by rw [gk _ _ (by omega) (by omega)]; exact hr.2.1)
            have fr : ∀ c i, (c ≠ 181 ∨ i ≠ 17) → (c ≠ 186 ∨ i < 32) → (c ≠ 187 ∨ i < 1568) → h' c i = h c i := fun c i z w v => by rw [x4 c i (by omega) z, gk c i z (by omega)]
            by_cases q4 : (rdc t n (a + 2) (pw n r)).2 = 0
            · obtain ⟨y1, y2⟩ := x3 q4
              have er : rdo t n (f + 1) a l ps = rdo t n f (a + 2 + pw n r) (l ++ [r]) (ps ++ [a + 2]) := by simp only [rdo]; rw [if_pos q0, if_pos q1, if_pos q2, q3]; show (if _ then _ else _) = _; rw [if_pos q4]
              have hll : (l ++ [r]).length = l.length + 1 := by simp
              have h5 : h' 185 8 = (l.length : Int) := by rw [fr _ _ (by omega) (by omega) (by omega)]; exact hr.2.1
              have rT : RepM (stp h' 185 8 ((l.length + 1 : Nat) : Int)) 184 185 186 187 8 n (l ++ [r]) (tbT t (ps ++ [a + 2])) := by
                refine RepM_ext (T := fun o k => if o < l.length then tbT t ps o k else bA t (a + 2 + k) - 48) (tb_ext hps (fun o k ho => if_pos ho) (fun k hk => if_neg (by omega))) ⟨?_, ?_, fun o ho => ?_, fun o ho k hk => ?_⟩
                · rw [stp_ne (by omega), fr _ _ (by omega) (by omega) (by omega)]; exact hr.1
                · rw [stp_eq, hll]
                · rw [hll] at ho
                  rw [stp_ne (by omega), x4 _ _ (by omega) (by omega)]
                  by_cases z : o = l.length
                  · subst z
                    rw [gd_eq, ← hg, stp_ne (by omega), show 4 * 8 + l.length = 32 + l.length by omega, stp_eq]
                  · rw [gk _ _ (by omega) (by omega), gd_lt (by omega)]; exact hr.2.2.1 o (by omega)
                · rw [hll] at ho
                  rw [stp_ne (by omega)]
                  show _ = if o < l.length then tbT t ps o k else bA t (a + 2 + k) - 48
                  by_cases z : o = l.length
                  · subst z
                    rw [gd_eq] at hk
                    rw [if_neg (by omega), show 196 * 8 + 49 * l.length + k = 1568 + 49 * l.length + (0 + k) by omega, y2 k hk]
                  · rw [gd_lt (by omega)] at hk
                    have h2o : l.getD o 0 ≤ 2 := by
                      rw [List.getD_eq_getElem?_getD, List.getElem?_eq_getElem (show o < l.length by omega)]
                      exact hx _ (List.getElem_mem _)
                    have hpo := pw_le hn.2 h2o
                    rw [if_pos (by omega), x4 _ _ (by omega) (by omega), gk _ _ (by omega) (by omega)]; exact hr.2.2.2 o (by omega) k hk
              obtain ⟨h6, z1, z2, z3, z4⟩ := ih (a + 2 + pw n r) N (l ++ [r]) (ps ++ [a + 2]) (stp h' 185 8 ((l.length + 1 : Nat) : Int)) (by omega) (by omega) (by omega) (by omega) (fun i hi => by rw [stp_ne (by omega), fr _ _ (by omega) (by omega) (by omega)]; exact ht i hi) (by rw [stp_ne (by omega), x2, y1]) (by simp; omega) (by
                intro x hx'
                rcases List.mem_append.mp hx' with z | z
                · exact hx x z
                · have := List.mem_singleton.mp z; omega) rT
              rw [er]
              refine ⟨h6, ?_, z2, z3, fun c i c1 c2 c3 c4 => by rw [z4 c i c1 c2 c3 c4, stp_ne (by omega), fr _ _ c1 c3 c4]⟩
              refine x1.trans ?_
              rw [if_pos q4, o8 h' l.length _ h5, wr_s (by omega), show (8 : Int) = ((8 : Nat) : Int) from rfl, wtm4 (by decide)]
              exact z1
            · have er : rdo t n (f + 1) a l ps = ((rdc t n (a + 2) (pw n r)).2, a + 2 + (rdc t n (a + 2) (pw n r)).1, l, ps) := by simp only [rdo]; rw [if_pos q0, if_pos q1, if_pos q2, q3]; show (if _ then _ else _) = _; rw [if_neg q4]
              rw [er]
              refine ⟨h', ?_, fun z => absurd z q4, fun _ => x2, fun c i c1 c2 c3 c4 => fr _ _ c1 c3 c4⟩
              refine x1.trans ?_
              rcases rdc_kind (t := t) (n := n) (pw n r) (a + 2) with z | z | z
              · exact absurd z q4
              · rw [z]; rfl
              · rw [z]; rfl
          by_cases c1 : bA t (a + 1) = 99
          · rw [if_pos c1, if_pos c1]
            exact key 0 (by unfold arO; rw [if_pos c1])
          · by_cases c2 : bA t (a + 1) = 117
            · rw [if_neg c1, if_pos c2, if_neg c1, if_pos c2]
              exact key 1 (by unfold arO; rw [if_neg c1, if_pos c2])
            · by_cases c3 : bA t (a + 1) = 98
              · rw [if_neg c1, if_neg c2, if_pos c3, if_neg c1, if_neg c2]
                exact key 2 (by unfold arO; rw [if_neg c1, if_neg c2, if_pos c3])
              · rw [if_neg c1, if_neg c2, if_neg c3]
                have q3 : arO (bA t (a + 1)) = none := by unfold arO; rw [if_neg c1, if_neg c2, if_neg c3]
                have er : rdo t n (f + 1) a l ps = (1, a + 1, l, ps) := by simp only [rdo]; rw [if_pos q0, if_pos q1, if_pos q2, q3]
                rw [er]
                exact ⟨_, rfl, fun z => absurd (show (1 : Nat) = 0 from z) (by decide), fun _ => by rw [stp_eq], fun c i d1 _ _ _ => stp_ne d1⟩
        · have er : rdo t n (f + 1) a l ps = (3, a, l, ps) := by simp only [rdo]; rw [if_pos q0, if_pos q1, if_neg q2]
          rw [if_pos (by omega), er]
          exact ⟨h, rfl, fun z => absurd (show (3 : Nat) = 0 from z) (by decide), fun _ => h7, fun _ _ _ _ _ _ => rfl⟩
      · have er : rdo t n (f + 1) a l ps = (1, a, l, ps) := by simp only [rdo]; rw [if_pos q0, if_neg q1]
        rw [if_neg q1, er]
        exact ⟨h, rfl, fun z => absurd (show (1 : Nat) = 0 from z) (by decide), fun _ => h7, fun _ _ _ _ _ _ => rfl⟩
    · rw [if_neg (by omega)]
      have er : rdo t n (f + 1) a l ps = (0, 0, l, ps) := by simp only [rdo]; rw [if_neg q0]
      rw [er]
      exact ⟨h, rfl, fun _ => hr, fun z => absurd rfl z, fun _ _ _ _ _ _ => rfl⟩
end OM
