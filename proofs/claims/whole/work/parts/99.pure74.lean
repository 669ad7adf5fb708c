/-! trying laws: terms of an algebra; fits -/
/-- the value of a term: g gives the variables, V the operations -/
def ev (sg mn se : Nat → Nat) (g : Nat → Nat) (V : Nat → Nat → Nat → Nat) : Nat → Nat → Nat
  | 0, _ => 0
  | D + 1, t => if sg t < 3 then g (sg t) else V (sg t - 3) (if 0 < mn t then ev sg mn se g V D (t + 1) else 0) (if 1 < mn t then ev sg mn se g V D (se t) else 0)
/-- the list fits: signs and arguments are those of operations -/
def fitP (ar : List Nat) (sg mn : Nat → Nat) (T : Nat) : Prop := ∀ t, t < T → sg t < 3 ∨ (sg t - 3 < ar.length ∧ ar.getD (sg t - 3) 0 = mn t)
def fitB (ar : List Nat) (sg mn : Nat → Nat) (t : Nat) : Bool := decide (sg t < 3) || (decide (sg t - 3 < ar.length) && decide (ar.getD (sg t - 3) 0 = mn t))
theorem fitB_iff {ar : List Nat} {sg mn : Nat → Nat} {T : Nat} : alB (fitB ar sg mn) 0 T = true ↔ fitP ar sg mn T := by
  rw [alB_iff]
  constructor
  · intro h t ht
    have := h t (by omega) (by omega)
    simpa [fitB] using this
  · intro h t _ ht
    have := h t (by omega)
    simpa [fitB] using this
section EV
variable {sg mn se : Nat → Nat} {g : Nat → Nat} {V : Nat → Nat → Nat → Nat}
theorem ev_dep : ∀ (D t e d : Nat), TT sg mn se D t e → D ≤ d → ev sg mn se g V d t = ev sg mn se g V D t
  | 0, _, _, _, h, _ => h.elim
  | D + 1, t, e, d, h, hd => by
    obtain ⟨d, rfl⟩ : ∃ x, d = x + 1 := ⟨d - 1, by omega⟩
    simp only [ev]
    rcases h with ⟨h1, h⟩ | ⟨h0, h1, h⟩ | ⟨h0, h1, h, h2⟩
    · rw [if_neg (show ¬ 0 < mn t by omega), if_neg (show ¬ 1 < mn t by omega), if_neg (show ¬ 0 < mn t by omega), if_neg (show ¬ 1 < mn t by omega)]
    · rw [if_pos (show 0 < mn t by omega), if_neg (show ¬ 1 < mn t by omega), if_pos (show 0 < mn t by omega), if_neg (show ¬ 1 < mn t by omega), ev_dep D (t + 1) e d h (by omega)]
    · rw [if_pos (show 0 < mn t by omega), if_pos (show 1 < mn t by omega), if_pos (show 0 < mn t by omega), if_pos (show 1 < mn t by omega), ev_dep D (t + 1) (se t) d h (by omega), ev_dep D (se t) e d h2 (by omega)]
/-- every place within a term is a term -/
theorem TT_sub : ∀ (D t e j : Nat), TT sg mn se D t e → t ≤ j → j < e → ∃ D' e', D' ≤ D ∧ e' ≤ e ∧ TT sg mn se D' j e'
  | 0, _, _, _, h, _, _ => h.elim
  | D + 1, t, e, j, h, h1, h2 => by
    by_cases q : j = t
    · subst q; exact ⟨D + 1, e, Nat.le_refl _, Nat.le_refl _, h⟩
    · rcases h with ⟨_, h⟩ | ⟨_, _, h⟩ | ⟨_, _, h, h'⟩
      · omega
      · obtain ⟨D', e', a1, a2, a3⟩ := TT_sub D (t + 1) e j h (by omega) h2
        exact ⟨D', e', by omega, a2, a3⟩
      · have l2 := TT_lt _ _ _ h'
        by_cases q2 : j < se t
        · obtain ⟨D', e', a1, a2, a3⟩ := TT_sub D (t + 1) (se t) j h (by omega) q2
          exact ⟨D', e', by omega, by omega, a3⟩
        · obtain ⟨D', e', a1, a2, a3⟩ := TT_sub D (se t) e j h' (by omega) h2
          exact ⟨D', e', by omega, a2, a3⟩
theorem ev_lt {n : Nat} {ar : List Nat} {T : Nat} (hg : ∀ v, v < 3 → g v < n) (hn : 1 ≤ n) (hf : fitP ar sg mn T) (hV : ∀ o a b, o < ar.length → a < n → b < n → V o a b < n) : ∀ (D t : Nat), (D = 0 ∨ ∃ D' e, D' ≤ D ∧ TT sg mn se D' t e ∧ e ≤ T) → ev sg mn se g V D t < n
  | 0, t, _ => by show 0 < n; omega
  | D + 1, t, h => by
    obtain ⟨D', e, h1, h2, h3⟩ := h.resolve_left (by omega)
    have lt := TT_lt _ _ _ h2
    obtain ⟨D', rfl⟩ : ∃ x, D' = x + 1 := by
      cases D' with
      | zero => exact h2.elim
      | succ x => exact ⟨x, rfl⟩
    simp only [ev]
    by_cases q : sg t < 3
    · rw [if_pos q]; exact hg _ q
    · rw [if_neg q]
      have ho := ((hf t (by omega)).resolve_left q).1
      refine hV _ _ _ ho ?_ ?_
      · by_cases z : 0 < mn t
        · rw [if_pos z]
          refine ev_lt hg hn hf hV D (t + 1) ?_
          rcases h2 with ⟨h1, h⟩ | ⟨_, _, h⟩ | ⟨_, _, h, h'⟩
          · omega
          · exact Or.inr ⟨D', e, by omega, h, h3⟩
          · have := TT_lt _ _ _ h'
            exact Or.inr ⟨D', se t, by omega, h, by omega⟩
        · rw [if_neg z]; omega
      · by_cases z : 1 < mn t
        · rw [if_pos z]
          refine ev_lt hg hn hf hV D (se t) ?_
          rcases h2 with ⟨h1, h⟩ | ⟨_, h1, h⟩ | ⟨_, _, h, h'⟩
          · omega
          · omega
          · exact Or.inr ⟨D', e, by omega, h', h3⟩
        · rw [if_neg z]; omega
end EV
section FT
variable {F n d i A L T : Nat} {ar : List Nat} {tb : Nat → Nat → Int} {sg mn : Nat → Nat} {h : HF}
theorem fits_c (hk : kt A = 0 + 3) (hw : WF n ar tb) (hr : RepC h A n ar tb) (hL : LCell L) (hT : T ≤ 80) (h2 : h L 2 = (T : Int)) (hrow : ∀ t, t < T → h (L + 5) t = (sg t : Int) ∧ h (L + 6) t = (mn t : Int)) (h7 : ∀ t, t < T → sg t < 7) {k56 k48 : HF → RO} : ∀ (m t N : Nat), t + m = T → m + 1 ≤ N → LX4_fits_2 F L A k56 k48 k48 N (t : Int) h = if alB (fitB ar sg mn) t m = true then k56 h else k48 h := by
  obtain ⟨-, -, -, -, k5, k6, -⟩ := LCell_kl hL
  obtain ⟨-, kA, -⟩ := zl_0 A hk
  have hl4 := hw.2.1
  intro m
  induction m with
  | zero =>
    intro t N ht hN
    obtain ⟨N, rfl⟩ : ∃ M, N = M + 1 := ⟨N - 1, by omega⟩
    rw [LX4_fits_2, zgf_eq, h2, if_neg (by omega)]
    rfl
  | succ m ih =>
    intro t N ht hN
    obtain ⟨N, rfl⟩ : ∃ M, N = M + 1 := ⟨N - 1, by omega⟩
    obtain ⟨r1, r2⟩ := hrow t (by omega)
    have s7 := h7 t (by omega)
    rw [LX4_fits_2, zgf_eq, h2, if_pos (by omega), zrd_ok (a := L + 5) ⟨by omega, by omega⟩, Int.toNat_natCast, r1, zlet_eq, wr_id (x := (sg t : Int) - 3) ⟨by omega, by omega⟩, zgf_eq, hr.2.1]
    simp only [zjn_eq, zlet_eq]
    rw [wr_s (by omega), ih (t + 1) N (by omega) (by omega), alB_s]
    by_cases q3 : sg t < 3
    · rw [if_pos (show (sg t : Int) - 3 < (ar.length : Int) by omega), if_pos (show (sg t : Int) - 3 < 0 by omega), show fitB ar sg mn t = true by simp [fitB, q3], Bool.true_and]
    · by_cases qo : sg t - 3 < ar.length
      · rw [if_pos (show (sg t : Int) - 3 < (ar.length : Int) by omega), if_neg (show ¬ (sg t : Int) - 3 < 0 by omega), show (sg t : Int) - 3 = ((sg t - 3 : Nat) : Int) by omega, zrd_ok (a := A + 1) ⟨by omega, by omega⟩, Int.toNat_natCast, hr.2.2.2.1 _ qo, zrd_ok (a := L + 6) ⟨by omega, by omega⟩, Int.toNat_natCast, r2]
        by_cases qm : ar.getD (sg t - 3) 0 = mn t
        · rw [if_pos (by omega), show fitB ar sg mn t = true by simp only [fitB, decide_eq_true qo, decide_eq_true qm, Bool.and_self, Bool.or_true], Bool.true_and]
        · rw [if_neg (by omega), show fitB ar sg mn t = false by simp only [fitB, decide_eq_false q3, decide_eq_false qm, Bool.and_false, Bool.or_self], Bool.false_and, if_neg (by decide)]
      · rw [if_neg (show ¬ (sg t : Int) - 3 < (ar.length : Int) by omega), show fitB ar sg mn t = false by simp only [fitB, decide_eq_false q3, decide_eq_false qo, Bool.false_and, Bool.or_self], Bool.false_and, if_neg (by decide)]
theorem fits_c_eq (hF : 82 ≤ F) (hk : kt A = 0 + 3) (hw : WF n ar tb) (hr : RepC h A n ar tb) (hL : LCell L) (hT : T ≤ 80) (h2 : h L 2 = (T : Int)) (hrow : ∀ t, t < T → h (L + 5) t = (sg t : Int) ∧ h (L + 6) t = (mn t : Int)) (h7 : ∀ t, t < T → sg t < 7) : fX4_fits F L A h = some (bi (alB (fitB ar sg mn) 0 T), h) := by
  unfold fX4_fits
  simp only [zjn_eq]
  refine (fits_c (F := F) hk hw hr hL hT h2 hrow h7 (k56 := fun h => zrz 1 h) (k48 := fun h => zrz 0 h) T 0 F (by omega) (by omega)).trans ?_
  cases alB (fitB ar sg mn) 0 T <;> rfl
theorem fits_m (hd : d < 10) (hi : i < 4) (hw : WF n ar tb) (hr : RepM h 184 185 186 187 d n ar tb) (hT : T ≤ 80) (h9 : h 199 i = (T : Int)) (hrow : ∀ t, t < T → h 194 (80 * i + t) = (sg t : Int) ∧ h 195 (80 * i + t) = (mn t : Int)) (h7 : ∀ t, t < T → sg t < 7) {k84 : Int → HF → RO} : ∀ (m t N : Nat) (w : Bool), t + m = T → m + 1 ≤ N → LX12_fits_8 F 181 (d : Int) (i : Int) k84 N (bi w) ((80 * i + t : Nat) : Int) h = k84 (bi (w && alB (fitB ar sg mn) t m)) h := by
  have eb : wr (wr (80 * (i : Int)) + (T : Int)) = ((80 * i + T : Nat) : Int) := by rw [wr_id (x := 80 * (i : Int)) ⟨by omega, by omega⟩, wr_id ⟨by omega, by omega⟩]; omega
  intro m
  induction m with
  | zero =>
    intro t N w ht hN
    obtain ⟨N, rfl⟩ : ∃ M, N = M + 1 := ⟨N - 1, by omega⟩
    rw [LX12_fits_8, rdm18 (by omega), h9, eb, if_neg (by omega)]
    simp only [alB, Bool.and_true]
  | succ m ih =>
    intro t N w ht hN
    obtain ⟨N, rfl⟩ : ∃ M, N = M + 1 := ⟨N - 1, by omega⟩
    obtain ⟨r1, r2⟩ := hrow t (by omega)
    have s7 := h7 t (by omega)
    rw [LX12_fits_8, rdm18 (by omega), h9, eb, if_pos (by omega), rdm13 (by omega), r1, zlet_eq, wr_id (x := (sg t : Int) - 3) ⟨by omega, by omega⟩]
    simp only [zjn_eq, zlet_eq]
    rw [alB_s, wr_s (by omega), show ((80 * i + t + 1 : Nat) : Int) = ((80 * i + (t + 1) : Nat) : Int) by omega]
    have i1 := ih (t + 1) N true (by omega) (by omega)
    have i0 := ih (t + 1) N false (by omega) (by omega)
    rw [show bi true = 1 from rfl] at i1
    rw [show bi false = 0 from rfl] at i0
    cases w with
    | false => rw [if_pos (show bi false = 0 from rfl), i0]; rfl
    | true =>
      rw [if_neg (show ¬ bi true = 0 by decide)]
      by_cases q3 : sg t < 3
      · rw [if_pos (show (sg t : Int) - 3 < 0 by omega), show fitB ar sg mn t = true by simp [fitB, q3], i1]
        rfl
      · rw [if_neg (show ¬ (sg t : Int) - 3 < 0 by omega), mops hd hr]
        by_cases qo : sg t - 3 < ar.length
        · rw [if_pos (show (sg t : Int) - 3 < (ar.length : Int) by omega), show (sg t : Int) - 3 = ((sg t - 3 : Nat) : Int) by omega, marity_eq hd hw hr qo, zbd_some, rdm14 (by omega), r2]
          by_cases qm : ar.getD (sg t - 3) 0 = mn t
          · rw [if_pos (by omega), show fitB ar sg mn t = true by simp only [fitB, decide_eq_true qo, decide_eq_true qm, Bool.and_self, Bool.or_true], i1]
            rfl
          · rw [if_neg (by omega), show fitB ar sg mn t = false by simp only [fitB, decide_eq_false q3, decide_eq_false qm, Bool.and_false, Bool.or_self], i0]
            rfl
        · rw [if_neg (show ¬ (sg t : Int) - 3 < (ar.length : Int) by omega), show fitB ar sg mn t = false by simp only [fitB, decide_eq_false q3, decide_eq_false qo, Bool.false_and, Bool.or_self], i0]
          rfl
theorem fits_m_eq (hF : 82 ≤ F) (hd : d < 10) (hi : i < 4) (hw : WF n ar tb) (hr : RepM h 184 185 186 187 d n ar tb) (hT : T ≤ 80) (h9 : h 199 i = (T : Int)) (hrow : ∀ t, t < T → h 194 (80 * i + t) = (sg t : Int) ∧ h 195 (80 * i + t) = (mn t : Int)) (h7 : ∀ t, t < T → sg t < 7) : fX12_fits F 181 (d : Int) (i : Int) h = some (bi (alB (fitB ar sg mn) 0 T), h) := by
  unfold fX12_fits
  rw [zlet_eq, zjn_eq, wr_id (x := 80 * (i : Int)) ⟨by omega, by omega⟩, show 80 * (i : Int) = ((80 * i + 0 : Nat) : Int) by omega]
  refine (fits_m (F := F) hd hi hw hr hT h9 hrow h7 (k84 := fun x h => zrz x h) T 0 F true (by omega) (by omega)).trans ?_
  rw [Bool.true_and]
  cases alB (fitB ar sg mn) 0 T <;> rfl
end FT
