/-! at the start: all empty -/
theorem Inv_0 : InvP I4d I5d I6d hFin := by
  refine ⟨⟨[], ⟨by decide +kernel, fun i hi => absurd hi (Nat.not_lt_zero i)⟩, ⟨by decide +kernel, fun i hi => absurd hi (Nat.not_lt_zero i)⟩, by decide, fun b hb => absurd hb List.not_mem_nil⟩, ⟨[], ⟨by decide +kernel, fun i hi => absurd hi (Nat.not_lt_zero i)⟩, ⟨by decide +kernel, fun i hi => absurd hi (Nat.not_lt_zero i)⟩, by decide⟩, ⟨by decide +kernel, ?_⟩, ?_, ?_, ?_⟩
  · have : hFin 86 0 = 0 := by decide +kernel
    rw [this]
    exact ⟨by decide, by decide⟩
  · have e : ∀ d, d < 8 → hFin (117 + 4 * d) 0 = 0 ∧ hFin (117 + 4 * d) 1 = 0 ∧ hFin (117 + 4 * d) 2 = 0 ∧ hFin (117 + 4 * d + 2) 0 = 0 ∧ hFin 184 d = 0 := by decide +kernel
    exact I4d_put (fun d hd => Or.inl (e d hd)) (by decide +kernel)
  · refine I5d_put ⟨0, 0, 0, by decide, by decide, by decide, by decide +kernel, by decide +kernel, by decide +kernel, by decide +kernel, fun i hi => absurd hi (Nat.not_lt_zero i)⟩
  · refine I6d_put ⟨⟨78, by decide +kernel, Or.inl rfl, by decide +kernel⟩, fun i hi => ?_, ?_, ?_⟩
    · have e : ∀ i, i < 4 → hFin 77 i = ((149 + 8 * i : Nat) : Int) ∧ hFin (149 + 8 * i) 0 = 0 ∧ hFin 205 i = 0 := by decide +kernel
      obtain ⟨e1, e2, e3⟩ := e i hi
      exact ⟨149 + 8 * i, e1, by unfold LCell; omega, by rw [e2, e3], Or.inl e3⟩
    · have e : ∀ i, i < 4 → hFin 77 i = ((149 + 8 * i : Nat) : Int) := by decide +kernel
      intro i j hi hj hij
      rw [e i hi, e j hj]
      omega
    · intro L hL
      rcases hL with rfl | rfl | rfl | rfl | rfl <;> exact ⟨by decide +kernel, by decide +kernel⟩
