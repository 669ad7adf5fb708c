/-! the history depends on its own places alone -/
theorem CR_keep {h h' : HF} {C cs co ca cc d : Nat} (e : ∀ c, (c = C ∨ c = C + 1 ∨ c = C + 2 ∨ c = C + 3 ∨ c = cs ∨ c = co ∨ c = ca ∨ c = cc) → h' c = h c) (hC : CR h C cs co ca cc d) : CR h' C cs co ca cc d := by
  have q0 := e C (by omega)
  have q1 := e (C + 1) (by omega)
  have q2 := e (C + 2) (by omega)
  have q3 := e (C + 3) (by omega)
  have p0 := e cs (by omega)
  have p1 := e co (by omega)
  have p2 := e ca (by omega)
  have p3 := e cc (by omega)
  rcases hC with ⟨a1, a2, a3, a4, a5⟩ | ⟨n, ar, tb, hw, ⟨b1, b2, b3, b4, b5, b6⟩, ⟨d1, d2, d3, d4⟩⟩
  · exact Or.inl ⟨by rw [q0]; exact a1, by rw [q0]; exact a2, by rw [q0]; exact a3, by rw [q2]; exact a4, by rw [p0]; exact a5⟩
  · exact Or.inr ⟨n, ar, tb, hw, ⟨by rw [q0]; exact b1, by rw [q0]; exact b2, by rw [q0]; exact b3, fun o ho => by rw [q1]; exact b4 o ho, fun o ho => by rw [q2]; exact b5 o ho, fun o ho k hk => by rw [q3]; exact b6 o ho k hk⟩, ⟨by rw [p0]; exact d1, by rw [p1]; exact d2, fun o ho => by rw [p2]; exact d3 o ho, fun o ho k hk => by rw [p3]; exact d4 o ho k hk⟩⟩
theorem I5d_congr {h h' : HF} (e : ∀ c k, S5 c k = true → h' c k = h c k) (hI : I5d h) : I5d h' := by
  obtain ⟨ol, kp, ce, a1, a2, a3, b1, b2, b3, b4, hA⟩ := hI
  have ec : ∀ c, (12 ≤ c ∧ c ≤ 76) ∨ (188 ≤ c ∧ c ≤ 192) → h' c = h c := fun c hc => by
    funext k
    exact e c k (by simp [S5]; omega)
  refine ⟨ol, kp, ce, a1, a2, a3, by rw [e 10 2 (by decide)]; exact b1, by rw [e 10 3 (by decide)]; exact b2, by rw [e 181 15 (by decide)]; exact b3, by rw [e 181 16 (by decide)]; exact b4, fun i hi => ?_⟩
  obtain ⟨d, hd, c1, c2, c3⟩ := hA i hi
  have hs : (ol + i) % 16 < 16 := Nat.mod_lt _ (by decide)
  refine ⟨d, hd, by rw [ec 12 (by decide)]; exact c1, by rw [ec 188 (by decide)]; exact c2, CR_keep (fun c hc => ec c (by omega)) c3⟩
theorem I5d_get {h : HF} (hI : I5d (msk S5 h)) : I5d h := I5d_congr (fun c k q => (msk_on q).symm) hI
theorem I5d_put {h : HF} (hI : I5d h) : I5d (msk S5 h) := I5d_congr (fun c k q => msk_on q) hI
