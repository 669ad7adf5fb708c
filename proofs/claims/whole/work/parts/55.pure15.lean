/-! what an object of the class and rows of the reference hold alike; the history -/
def CR (h : HF) (C cs co ca cc d : Nat) : Prop := (h C 0 = 0 ∧ h C 1 = 0 ∧ h C 2 = 0 ∧ h (C + 2) 0 = 0 ∧ h cs d = 0) ∨ ∃ n ar tb, WF n ar tb ∧ RepC h C n ar tb ∧ RepM h cs co ca cc d n ar tb
theorem DR_CR {h : HF} {d : Nat} : DR h d = CR h (117 + 4 * d) 184 185 186 187 d := rfl
def I5d (h : HF) : Prop := ∃ ol kp ce : Nat, ol < 16 ∧ kp ≤ 16 ∧ ce < 16 ∧ h 10 2 = (ol : Int) ∧ h 10 3 = (kp : Int) ∧ h 181 15 = (ce : Int) ∧ h 181 16 = (kp : Int) ∧ ∀ i, i < kp → ∃ d : Nat, d < 8 ∧ h 12 ((ol + i) % 16) = (d : Int) ∧ h 188 ((ce + 16 - kp + i) % 16) = (d : Int) ∧ CR h (13 + 4 * ((ol + i) % 16)) 189 190 191 192 ((ce + 16 - kp + i) % 16)
/-- how many operations, and where its line ends -/
theorem CR_ends {h : HF} {C cs co ca cc d : Nat} (hC : CR h C cs co ca cc d) : ∃ m t : Nat, m ≤ 4 ∧ t ≤ 196 ∧ h C 1 = (m : Int) ∧ h (C + 2) m = (t : Int) := by
  rcases hC with ⟨-, a2, -, a4, -⟩ | ⟨n, ar, tb, hw, hc, -⟩
  · exact ⟨0, 0, by decide, by decide, a2, a4⟩
  · have := sto_le hw.1.2 hw.2.2.1 ar.length (Nat.le_refl _)
    have hl := hw.2.1
    exact ⟨ar.length, sto n ar ar.length, hl, by omega, hc.2.1, hc.2.2.2.2.1 _ (Nat.le_refl _)⟩
theorem sto_mono {n : Nat} {ar : List Nat} {o : Nat} : ∀ j, o + 1 ≤ j → sto n ar o + pw n (ar.getD o 0) ≤ sto n ar j
  | 0, h => absurd h (by omega)
  | j + 1, h => by
    by_cases q : j = o
    · subst q; exact Nat.le_refl _
    · have := sto_mono (n := n) (ar := ar) (o := o) j (by omega)
      simp only [sto]
      omega
/-- the same content at another object and in other rows -/
theorem CR_move {h h' : HF} {C C' cs co ca cc d cs' co' ca' cc' d' m t : Nat} (hC : CR h C cs co ca cc d) (m1 : h C 1 = (m : Int)) (mt : h (C + 2) m = (t : Int)) (c0 : h' C' 0 = h C 0) (c1 : h' C' 1 = h C 1) (c2 : h' C' 2 = h C 2) (c3 : ∀ o, o < m → h' (C' + 1) o = h (C + 1) o) (c4 : ∀ o, o ≤ m → h' (C' + 2) o = h (C + 2) o) (c5 : ∀ i, i < t → h' (C' + 3) i = h (C + 3) i) (e0 : h' cs' d' = h cs d) (e1 : h' co' d' = h co d) (e2 : ∀ o, o < 4 → h' ca' (4 * d' + o) = h ca (4 * d + o)) (e3 : ∀ k, k < 196 → h' cc' (196 * d' + k) = h cc (196 * d + k)) : CR h' C' cs' co' ca' cc' d' := by
  rcases hC with ⟨a1, a2, a3, a4, a5⟩ | ⟨n, ar, tb, hw, hc, hm⟩
  · have : m = 0 := by rw [a2] at m1; omega
    subst this
    exact Or.inl ⟨by rw [c0, a1], by rw [c1, a2], by rw [c2, a3], by rw [c4 0 (Nat.le_refl _), a4], by rw [e0, a5]⟩
  · have hl := hw.2.1
    have em : m = ar.length := by have := hc.2.1; rw [m1] at this; omega
    subst em
    have et : t = sto n ar ar.length := by have := hc.2.2.2.2.1 _ (Nat.le_refl _); rw [mt] at this; omega
    subst et
    refine Or.inr ⟨n, ar, tb, hw, ⟨by rw [c0, hc.1], by rw [c1, hc.2.1], by rw [c2, hc.2.2.1], fun o ho => by rw [c3 o ho, hc.2.2.2.1 o ho], fun o ho => by rw [c4 o ho, hc.2.2.2.2.1 o ho], fun o ho k hk => ?_⟩, ⟨by rw [e0, hm.1], by rw [e1, hm.2.1], fun o ho => by rw [e2 o (by omega), hm.2.2.1 o ho], fun o ho k hk => ?_⟩⟩
    · have := sto_mono (n := n) (ar := ar) (o := o) ar.length (by omega)
      rw [c5 _ (by omega), hc.2.2.2.2.2 o ho k hk]
    · have := pw_le hw.1.2 (hw.2.2.1 o ho)
      rw [show 196 * d' + 49 * o + k = 196 * d' + (49 * o + k) by omega, e3 _ (by omega), show 196 * d + (49 * o + k) = 196 * d + 49 * o + k by omega, hm.2.2.2 o ho k hk]
