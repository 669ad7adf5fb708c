/-! The invariant, by groups of places; the first calls: feed, trim, out, fault -/
def S4 (c k : Nat) : Bool := (decide (c = 8) && decide (k = 0)) || (decide (117 ≤ c) && decide (c ≤ 148)) || (decide (c = 184) && decide (k < 8)) || (decide (c = 185) && decide (k < 8)) || (decide (c = 186) && decide (k < 32)) || (decide (c = 187) && decide (k < 1568))
def S5 (c k : Nat) : Bool := (decide (c = 10) && (decide (k = 2) || decide (k = 3))) || (decide (12 ≤ c) && decide (c ≤ 76)) || (decide (188 ≤ c) && decide (c ≤ 192)) || (decide (c = 181) && (decide (k = 15) || decide (k = 16)))
def S6 (c k : Nat) : Bool := (decide (c = 0) && decide (k = 6)) || (decide (77 ≤ c) && decide (c ≤ 85)) || (decide (149 ≤ c) && decide (c ≤ 180)) || (decide (194 ≤ c) && decide (c ≤ 197) && decide (k < 320)) || ((decide (c = 199) || decide (c = 202) || decide (c = 205)) && decide (k < 4)) || ((decide (c = 200) || decide (c = 201)) && decide (k < 160)) || ((decide (c = 203) || decide (c = 204)) && decide (k < 28))
def I1 (h : HF) : Prop := ∃ t : List Int, TP h 1 1 2 t ∧ TP h 181 2 182 t ∧ t.length ≤ 400 ∧ ∀ b ∈ t, 0 ≤ b ∧ b ≤ 255
def I2 (h : HF) : Prop := ∃ t : List Int, TP h 3 1 4 t ∧ TP h 181 4 183 t ∧ t.length ≤ 205
def I3 (h : HF) : Prop := h 86 0 = h 181 5 ∧ rng (h 86 0)
/-- I4 drawers, I5 history, I6 law lists: by what stands in their own places alone -/
def InvP (I4 I5 I6 : HF → Prop) (h : HF) : Prop := I1 h ∧ I2 h ∧ I3 h ∧ I4 (msk S4 h) ∧ I5 (msk S5 h) ∧ I6 (msk S6 h)
theorem TP_keep {h h' : HF} {o k a : Nat} {t : List Int} (ht : TP h o k a t) (h1 : h' o k = h o k) (h2 : ∀ i, h' a i = h a i) : TP h' o k a t := ⟨by rw [h1]; exact ht.1, fun i hi => by rw [h2]; exact ht.2 i hi⟩
theorem I_keep {S : Nat → Nat → Bool} {I : HF → Prop} {h h' : HF} (e : ∀ c k, S c k = true → h' c k = h c k) (hI : I (msk S h)) : I (msk S h') := by rw [msk_eq e]; exact hI
theorem S4_out {c k : Nat} (h : S4 c k = true) : (c = 8 ∧ k = 0) ∨ (117 ≤ c ∧ c ≤ 148) ∨ (184 ≤ c ∧ c ≤ 187) := by simp [S4] at h; omega
theorem S5_out {c k : Nat} (h : S5 c k = true) : (c = 10 ∧ (k = 2 ∨ k = 3)) ∨ (12 ≤ c ∧ c ≤ 76) ∨ (188 ≤ c ∧ c ≤ 192) ∨ (c = 181 ∧ (k = 15 ∨ k = 16)) := by simp [S5] at h; omega
theorem S6_out {c k : Nat} (h : S6 c k = true) : c = 0 ∨ (77 ≤ c ∧ c ≤ 85) ∨ (149 ≤ c ∧ c ≤ 180) ∨ (194 ≤ c ∧ c ≤ 205) := by simp [S6] at h; omega
/-- what a call leaves as it was: all but the places of tape, OUT, fault, and 'thrown' -/
theorem Inv_keep {I4 I5 I6 : HF → Prop} {h h' : HF} (h4 : I4 (msk S4 h)) (h5 : I5 (msk S5 h)) (h6 : I6 (msk S6 h)) (e : ∀ c k, (c = 0 ∨ c = 8 ∨ (10 ≤ c ∧ c ≤ 85) ∨ (117 ≤ c ∧ c ≤ 180) ∨ (184 ≤ c ∧ c ≤ 205) ∨ (c = 181 ∧ (k = 15 ∨ k = 16))) → h' c k = h c k) : I4 (msk S4 h') ∧ I5 (msk S5 h') ∧ I6 (msk S6 h') :=
  ⟨I_keep (fun c k q => e c k (by have := S4_out q; omega)) h4, I_keep (fun c k q => e c k (by have := S5_out q; omega)) h5, I_keep (fun c k q => e c k (by have := S6_out q; omega)) h6⟩
theorem fourB_rng (a : Int) : ∀ b ∈ fourB a, 0 ≤ b ∧ b ≤ 255 := by
  intro b hb
  simp only [fourB, List.mem_cons, List.not_mem_nil, or_false] at hb
  rcases hb with q | q | q | q <;> rw [q] <;> exact byte_rng _
theorem fiveB_rng (a b c d e : Int) : ∀ x ∈ fiveB a b c d e, 0 ≤ x ∧ x ≤ 255 := by
  intro x hx
  simp only [fiveB, List.mem_append] at hx
  rcases hx with (((q | q) | q) | q) | q
  · exact fourB_rng a x q
  · exact fourB_rng b x q
  · exact fourB_rng c x q
  · exact fourB_rng d x q
  · exact fourB_rng e x q
theorem ps_feed {I4 I5 I6 : HF → Prop} {F : Nat} (hF : 5 ≤ F) : PS_feed F (InvP I4 I5 I6) := by
  intro h a b c d e hI _ _ _ _ _
  obtain ⟨⟨t, hc, hm, hl, hb⟩, ⟨o, oc, om, ol⟩, h3, h4, h5, h6⟩ := hI
  obtain ⟨f1, f2⟩ := c_feed (F := F) (a := a) (b := b) (c := c) (d := d) (e := e) hF hc hl
  by_cases q : 380 < t.length
  · obtain ⟨h2, e2, t2, k2⟩ := m_feed (F := F) (a := a) (b := b) (c := c) (d := d) (e := e) hF hm hl
    rw [if_pos q] at e2 t2
    refine ⟨-5, h, h2, f1 q, e2, ⟨t, TP_keep hc (k2 _ _ (by decide) (by decide)) (fun i => k2 _ _ (by decide) (Or.inl (by decide))), t2, hl, hb⟩, ⟨o, TP_keep oc (k2 _ _ (by decide) (by decide)) (fun i => k2 _ _ (by decide) (Or.inl (by decide))), TP_keep om (k2 _ _ (by decide) (by decide)) (fun i => k2 _ _ (by decide) (Or.inl (by decide))), ol⟩, ⟨?_, ?_⟩, ?_⟩
    · rw [k2 86 0 (by decide) (by decide), k2 181 5 (by decide) (by decide)]; exact h3.1
    · rw [k2 86 0 (by decide) (by decide)]; exact h3.2
    · exact Inv_keep h4 h5 h6 (fun c k hq => k2 c k (by omega) (by omega))
  · obtain ⟨h1, e1, t1, k1⟩ := f2 (by omega)
    have hm1 : TP h1 181 2 182 t := TP_keep hm (k1 _ _ (by decide) (by decide)) (fun i => k1 _ _ (by decide) (Or.inl (by decide)))
    obtain ⟨h2, e2, t2, k2⟩ := m_feed (F := F) (a := a) (b := b) (c := c) (d := d) (e := e) hF hm1 hl
    rw [if_neg q] at e2 t2
    have k3 : ∀ c' k', c' ≠ 182 → c' ≠ 2 → (c' ≠ 181 ∨ (k' ≠ 2 ∧ k' ≠ 0)) → (c' ≠ 1 ∨ k' ≠ 1) → h2 c' k' = h c' k' := fun c' k' a1 a2 a3 a4 => (k2 c' k' a1 a3).trans (k1 c' k' a2 a4)
    refine ⟨_, h1, h2, e1, e2, ⟨t ++ fiveB a b c d e, TP_keep t1 (k2 _ _ (by decide) (by decide)) (fun i => k2 _ _ (by decide) (Or.inl (by decide))), t2, ?_, ?_⟩, ⟨o, TP_keep oc (k3 _ _ (by decide) (by decide) (by decide) (by decide)) (fun i => k3 _ _ (by decide) (by decide) (Or.inl (by decide)) (Or.inl (by decide))), TP_keep om (k3 _ _ (by decide) (by decide) (by decide) (by decide)) (fun i => k3 _ _ (by decide) (by decide) (Or.inl (by decide)) (Or.inl (by decide))), ol⟩, ⟨?_, ?_⟩, ?_⟩
    · simp [fiveB, fourB_len]; omega
    · intro x hx
      rcases List.mem_append.mp hx with z | z
      · exact hb x z
      · exact fiveB_rng a b c d e x z
    · rw [k3 86 0 (by decide) (by decide) (by decide) (by decide), k3 181 5 (by decide) (by decide) (by decide) (by decide)]; exact h3.1
    · rw [k3 86 0 (by decide) (by decide) (by decide) (by decide)]; exact h3.2
    · exact Inv_keep h4 h5 h6 (fun c k hq => k3 c k (by omega) (by omega) (by omega) (by omega))
theorem ps_fault {I4 I5 I6 : HF → Prop} {F : Nat} : PS_fault F (InvP I4 I5 I6) := by
  intro h hI
  obtain ⟨⟨t, hc, hm, hl, hb⟩, ⟨o, oc, om, ol⟩, h3, h4, h5, h6⟩ := hI
  have k : ∀ c' k', (c' ≠ 181 ∨ k' ≠ 0) → stp h 181 0 0 c' k' = h c' k' := fun c' k' q => stp_ne q
  refine ⟨h 86 0, h, stp h 181 0 0, rfl, ?_, ⟨t, TP_keep hc (k _ _ (by decide)) (fun i => k _ _ (Or.inl (by decide))), TP_keep hm (k _ _ (by decide)) (fun i => k _ _ (Or.inl (by decide))), hl, hb⟩, ⟨o, TP_keep oc (k _ _ (by decide)) (fun i => k _ _ (Or.inl (by decide))), TP_keep om (k _ _ (by decide)) (fun i => k _ _ (Or.inl (by decide))), ol⟩, ⟨?_, ?_⟩, Inv_keep h4 h5 h6 (fun c' k' hq => k c' k' (by omega))⟩
  · show some (stp h 181 0 0 181 5, stp h 181 0 0) = some (h 86 0, stp h 181 0 0)
    rw [k 181 5 (by decide), h3.1]
  · rw [k 86 0 (by decide), k 181 5 (by decide)]; exact h3.1
  · rw [k 86 0 (by decide)]; exact h3.2
