/-! a change is kept on both sides: the history grows by one entry, or loses its oldest -/
theorem hist_keep {h h3 : HF} {d ol kp ce : Nat} (hd : d < 8) (a1 : ol < 16) (a2 : kp ≤ 16) (a3 : ce < 16) (hA : ∀ i, i < kp → ∃ d : Nat, d < 8 ∧ h 12 ((ol + i) % 16) = (d : Int) ∧ h 188 ((ce + 16 - kp + i) % 16) = (d : Int) ∧ CR h (13 + 4 * ((ol + i) % 16)) 189 190 191 192 ((ce + 16 - kp + i) % 16))
    (n3 : h3 10 3 = ((min (kp + 1) 16 : Nat) : Int)) (n2 : h3 10 2 = ((if kp < 16 then ol else (ol + 1) % 16 : Nat) : Int)) (m5 : h3 181 15 = (((ce + 1) % 16 : Nat) : Int)) (m6 : h3 181 16 = ((min (kp + 1) 16 : Nat) : Int))
    (new1 : h3 12 ((ol + kp) % 16) = (d : Int)) (new2 : h3 188 ce = (d : Int)) (new3 : CR h3 (13 + 4 * ((ol + kp) % 16)) 189 190 191 192 ce)
    (old1 : ∀ j, j < 16 → j ≠ (ol + kp) % 16 → h3 12 j = h 12 j) (old2 : ∀ j, j ≠ ce → h3 188 j = h 188 j) (old3 : ∀ j j', j < 16 → j ≠ (ol + kp) % 16 → j' < 16 → j' ≠ ce → CR h (13 + 4 * j) 189 190 191 192 j' → CR h3 (13 + 4 * j) 189 190 191 192 j') : I5d h3 := by
  by_cases q : kp < 16
  · rw [if_pos q] at n2
    refine ⟨ol, kp + 1, (ce + 1) % 16, a1, by omega, by omega, n2, by rw [n3]; omega, m5, by rw [m6]; omega, fun i hi => ?_⟩
    have em : ((ce + 1) % 16 + 16 - (kp + 1) + i) % 16 = (ce + 16 - kp + i) % 16 := by omega
    rw [em]
    by_cases qi : i = kp
    · subst qi
      rw [show (ce + 16 - i + i) % 16 = ce by omega]
      exact ⟨d, hd, new1, new2, new3⟩
    · obtain ⟨d', x1, x2, x3, x4⟩ := hA i (by omega)
      exact ⟨d', x1, by rw [old1 _ (by omega) (by omega)]; exact x2, by rw [old2 _ (by omega)]; exact x3, old3 _ _ (by omega) (by omega) (by omega) (by omega) x4⟩
  · have hk : kp = 16 := by omega
    subst hk
    rw [if_neg q] at n2
    refine ⟨(ol + 1) % 16, 16, (ce + 1) % 16, by omega, by omega, by omega, n2, by rw [n3]; omega, m5, by rw [m6]; omega, fun i hi => ?_⟩
    have ec : ((ol + 1) % 16 + i) % 16 = (ol + (i + 1)) % 16 := by omega
    have em : ((ce + 1) % 16 + 16 - 16 + i) % 16 = (ce + 16 - 16 + (i + 1)) % 16 := by omega
    rw [ec, em]
    by_cases qi : i = 15
    · subst qi
      rw [show (ce + 16 - 16 + (15 + 1)) % 16 = ce by omega, show (ol + (15 + 1)) % 16 = (ol + 16) % 16 by omega]
      exact ⟨d, hd, new1, new2, new3⟩
    · obtain ⟨d', x1, x2, x3, x4⟩ := hA (i + 1) (by omega)
      exact ⟨d', x1, by rw [old1 _ (by omega) (by omega)]; exact x2, by rw [old2 _ (by omega)]; exact x3, old3 _ _ (by omega) (by omega) (by omega) (by omega) x4⟩
