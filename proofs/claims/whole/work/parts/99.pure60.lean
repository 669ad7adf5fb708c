/-! read: the call -/
theorem rdo_ok {t : List Int} {n : Nat} : ∀ (f a : Nat) (l ps : List Nat), f + l.length = 5 → l.length ≤ 4 → (∀ x ∈ l, x ≤ 2) → ps.length = l.length → (∀ o, o < l.length → ∀ k, k < pw n (l.getD o 0) → 0 ≤ tbT t ps o k ∧ tbT t ps o k < (n : Int)) → (rdo t n f a l ps).1 ≤ 3 ∧ ((rdo t n f a l ps).1 = 0 → (rdo t n f a l ps).2.2.1.length ≤ 4 ∧ (∀ x ∈ (rdo t n f a l ps).2.2.1, x ≤ 2) ∧ ∀ o, o < (rdo t n f a l ps).2.2.1.length → ∀ k, k < pw n ((rdo t n f a l ps).2.2.1.getD o 0) → 0 ≤ tbT t (rdo t n f a l ps).2.2.2 o k ∧ tbT t (rdo t n f a l ps).2.2.2 o k < (n : Int))
  | 0, a, l, ps, hf, hl, _, _, _ => by omega
  | f + 1, a, l, ps, hf, hl, hx, hps, hc => by
    by_cases q0 : a < t.length
    · by_cases q1 : bA t a = 59
      · by_cases q2 : l.length < 4
        · cases q3 : arO (bA t (a + 1)) with
          | none =>
            have er : rdo t n (f + 1) a l ps = (1, a + 1, l, ps) := by simp only [rdo]; rw [if_pos q0, if_pos q1, if_pos q2, q3]
            rw [er]
            exact ⟨by show 1 ≤ 3; decide, fun z => absurd (show (1 : Nat) = 0 from z) (by decide)⟩
          | some r =>
            have hr2 := arO_le q3
            by_cases q4 : (rdc t n (a + 2) (pw n r)).2 = 0
            · have er : rdo t n (f + 1) a l ps = rdo t n f (a + 2 + pw n r) (l ++ [r]) (ps ++ [a + 2]) := by simp only [rdo]; rw [if_pos q0, if_pos q1, if_pos q2, q3]; show (if _ then _ else _) = _; rw [if_pos q4]
              rw [er]
              refine rdo_ok f (a + 2 + pw n r) (l ++ [r]) (ps ++ [a + 2]) (by simp; omega) (by simp; omega) (by
                intro x hx'
                rcases List.mem_append.mp hx' with z | z
                · exact hx x z
                · have := List.mem_singleton.mp z; omega) (by simp; omega) (fun o ho k hk => ?_)
              simp only [List.length_append, List.length_cons, List.length_nil] at ho
              by_cases z : o = l.length
              · subst z
                rw [gd_eq] at hk
                unfold tbT
                rw [← hps, gd_eq]
                exact rdc_ok _ _ q4 k hk
              · rw [gd_lt (by omega)] at hk
                unfold tbT
                rw [gd_lt (by omega)]
                exact hc o (by omega) k hk
            · have er : rdo t n (f + 1) a l ps = ((rdc t n (a + 2) (pw n r)).2, a + 2 + (rdc t n (a + 2) (pw n r)).1, l, ps) := by simp only [rdo]; rw [if_pos q0, if_pos q1, if_pos q2, q3]; show (if _ then _ else _) = _; rw [if_neg q4]
              rw [er]
              refine ⟨?_, fun z => absurd z q4⟩
              rcases rdc_kind (t := t) (n := n) (pw n r) (a + 2) with z | z | z
              · show (rdc t n (a + 2) (pw n r)).2 ≤ 3; omega
              · show (rdc t n (a + 2) (pw n r)).2 ≤ 3; omega
              · show (rdc t n (a + 2) (pw n r)).2 ≤ 3; omega
        · have er : rdo t n (f + 1) a l ps = (3, a, l, ps) := by simp only [rdo]; rw [if_pos q0, if_pos q1, if_neg q2]
          rw [er]
          exact ⟨by show 3 ≤ 3; decide, fun z => absurd (show (3 : Nat) = 0 from z) (by decide)⟩
      · have er : rdo t n (f + 1) a l ps = (1, a, l, ps) := by simp only [rdo]; rw [if_pos q0, if_neg q1]
        rw [er]
        exact ⟨by show 1 ≤ 3; decide, fun z => absurd (show (1 : Nat) = 0 from z) (by decide)⟩
    · have er : rdo t n (f + 1) a l ps = (0, 0, l, ps) := by simp only [rdo]; rw [if_neg q0]
      rw [er]
      exact ⟨by show 0 ≤ 3; decide, fun _ => ⟨hl, hx, hc⟩⟩
theorem Inv_read {I6 : HF → Prop} {h h' : HF} (hI : InvP I4d I5d I6 h) (e1 : h' 1 1 = 0) (e2 : h' 181 2 = 0) (eo : ∀ c i, (c = 3 ∨ c = 4 ∨ c = 183 ∨ (c = 181 ∧ i = 4) ∨ S6 c i = true) → h' c i = h c i) (e3 : h' 86 0 = h' 181 5) (e4 : rng (h' 86 0)) (h8 : h' 8 0 = 0) (hD : ∀ d, d < 8 → DR h' d) (h5 : I5d h') : InvP I4d I5d I6 h' := by
  obtain ⟨_, ⟨o, oc, om, ol⟩, _, _, _, h6⟩ := hI
  refine ⟨⟨[], ⟨by rw [e1]; rfl, fun i hi => absurd hi (by simp)⟩, ⟨by rw [e2]; rfl, fun i hi => absurd hi (by simp)⟩, by decide, fun b hb => absurd hb (by simp)⟩, ⟨o, TP_keep oc (eo _ _ (by decide)) (fun i => eo _ _ (Or.inr (Or.inl rfl))), TP_keep om (eo _ _ (by decide)) (fun i => eo _ _ (Or.inr (Or.inr (Or.inl rfl)))), ol⟩, ⟨e3, e4⟩, I4d_put hD h8, I5d_put h5, I_keep (fun c k q => eo c k (Or.inr (Or.inr (Or.inr (Or.inr q))))) h6⟩
