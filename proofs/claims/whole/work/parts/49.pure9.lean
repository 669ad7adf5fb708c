/-! about -/
theorem cod_lt : ∀ (l : List Nat), (∀ r ∈ l, r ≤ 2) → cod l < 10 ^ l.length
  | [], _ => by decide
  | r :: l, h => by
    have h1 := cod_lt l (fun x hx => h x (List.mem_cons_of_mem _ hx))
    have h2 := h r List.mem_cons_self
    simp only [cod, List.length_cons, Nat.pow_succ]
    omega
theorem cod_drop {ar : List Nat} {o : Nat} (ho : o < ar.length) : cod (ar.drop o) = (ar.getD o 0 + 1) + 10 * cod (ar.drop (o + 1)) := by
  rw [List.drop_eq_getElem_cons ho, List.getD_eq_getElem?_getD, List.getElem?_eq_getElem ho]
  rfl
theorem ar_mem {n : Nat} {ar : List Nat} {tb : Nat → Nat → Int} (hw : WF n ar tb) : ∀ r ∈ ar, r ≤ 2 := by
  intro r hr
  obtain ⟨i, hi, e⟩ := List.getElem_of_mem hr
  have := hw.2.2.1 i hi
  rw [List.getD_eq_getElem?_getD, List.getElem?_eq_getElem hi] at this
  rw [← e]
  exact this
def cnF (V : Nat → Int) : Nat → Int → Nat → Int
  | _, x, 0 => x
  | i, x, m + 1 => cnF V (i + 1) (if V i = 0 then x else x + 1) m
section AB
variable {F A d n : Nat} {ar : List Nat} {tb : Nat → Nat → Int} {h : HF}
theorem about1_L (hd : d < 10) (hw : WF n ar tb) (hr : RepM h 184 185 186 187 d n ar tb) {k : Int → HF → RO} : ∀ (m N : Nat), m ≤ ar.length → m + 1 ≤ N → LX12_about_69 F 181 (d : Int) k N ((cod (ar.drop m) : Nat) : Int) ((m : Int) - 1) h = k ((cod ar : Nat) : Int) h := by
  have hl := hw.2.1
  intro m
  induction m with
  | zero =>
    intro N hm hN
    obtain ⟨N, rfl⟩ : ∃ M, N = M + 1 := ⟨N - 1, by omega⟩
    rw [LX12_about_69, if_pos (by omega)]
    rfl
  | succ m ih =>
    intro N hm hN
    obtain ⟨N, rfl⟩ : ∃ M, N = M + 1 := ⟨N - 1, by omega⟩
    have h0 := cod_lt (ar.drop (m + 1)) (fun r hr => ar_mem hw r (List.mem_of_mem_drop hr))
    have h1 : 10 ^ (ar.drop (m + 1)).length ≤ 10 ^ 4 := Nat.pow_le_pow_right (by decide) (by rw [List.length_drop]; omega)
    have h2 := hw.2.2.1 m (by omega)
    rw [LX12_about_69, if_neg (by omega), show ((m + 1 : Nat) : Int) - 1 = (m : Int) by omega, marity_eq hd hw hr (by omega), zbd_some]
    simp only [zlet]
    rw [wr_id (x := 10 * ((cod (ar.drop (m + 1)) : Nat) : Int)) ⟨by omega, by omega⟩, wr_id (x := 10 * ((cod (ar.drop (m + 1)) : Nat) : Int) + ((ar.getD m 0 : Nat) : Int)) ⟨by omega, by omega⟩, wr_id (x := 10 * ((cod (ar.drop (m + 1)) : Nat) : Int) + ((ar.getD m 0 : Nat) : Int) + 1) ⟨by omega, by omega⟩, wr_id ⟨by omega, by omega⟩, show 10 * ((cod (ar.drop (m + 1)) : Nat) : Int) + ((ar.getD m 0 : Nat) : Int) + 1 = ((cod (ar.drop m) : Nat) : Int) by rw [cod_drop (show m < ar.length by omega)]; omega, show (m : Int) + (-1) = (m : Int) - 1 by omega]
    exact ih N (by omega) (by omega)
theorem other_L (hk : kt A = 0 + 3) (hw : WF n ar tb) (hr : RepC h A n ar tb) {k : Int → HF → RO} : ∀ (m i N : Nat) (x : Int), 0 ≤ x → x ≤ (i : Int) → i + m = sto n ar ar.length → m + 1 ≤ N → LX0_otherThanZero_4 F A k N x (i : Int) h = k (cnF (h (A + 3)) i x m) h := by
  obtain ⟨-, -, -, -, -, k3⟩ := zl_0 A hk
  have hs := sto_le hw.1.2 hw.2.2.1 ar.length (Nat.le_refl _)
  have hl := hw.2.1
  intro m
  induction m with
  | zero =>
    intro i N x h0 h1 hi hN
    obtain ⟨N, rfl⟩ : ∃ M, N = M + 1 := ⟨N - 1, by omega⟩
    rw [LX0_otherThanZero_4, cellCount_eq hk hw hr, zbd_some, if_neg (by omega)]
    rfl
  | succ m ih =>
    intro i N x h0 h1 hi hN
    obtain ⟨N, rfl⟩ : ∃ M, N = M + 1 := ⟨N - 1, by omega⟩
    rw [LX0_otherThanZero_4, cellCount_eq hk hw hr, zbd_some, if_pos (by omega), zrd_ok (a := A + 3) ⟨by omega, by rw [k3]; omega⟩, Int.toNat_natCast]
    simp only [zjn, zlet, cnF]
    rw [wr_id (x := (i : Int) + 1) ⟨by omega, by omega⟩, show (i : Int) + 1 = ((i + 1 : Nat) : Int) by omega]
    by_cases q : h (A + 3) i = 0
    · rw [if_pos q, if_pos q]
      exact ih (i + 1) N x h0 (by omega) (by omega) (by omega)
    · rw [if_neg q, if_neg q, wr_id ⟨by omega, by omega⟩]
      exact ih (i + 1) N (x + 1) (by omega) (by omega) (by omega) (by omega)
theorem about3_L (hF : 5 ≤ F) {V : Nat → Int} (hV : ∀ o, o < ar.length → ∀ l, l < pw n (ar.getD o 0) → V (sto n ar o + l) = tb o l) (hd : d < 10) (hw : WF n ar tb) (hr : RepM h 184 185 186 187 d n ar tb) {k : Int → HF → RO} : ∀ (m i N : Nat) (x : Int), 0 ≤ x → x ≤ (i : Int) → i + m = sto n ar ar.length → m + 1 ≤ N → LX12_about_109 F 181 (d : Int) k N x (i : Int) h = k (cnF V i x m) h := by
  have hs := sto_le hw.1.2 hw.2.2.1 ar.length (Nat.le_refl _)
  have hl := hw.2.1
  intro m
  induction m with
  | zero =>
    intro i N x h0 h1 hi hN
    obtain ⟨N, rfl⟩ : ∃ M, N = M + 1 := ⟨N - 1, by omega⟩
    rw [LX12_about_109, cellsOf_eq hF hd hw hr, zbd_some, if_neg (by omega)]
    rfl
  | succ m ih =>
    intro i N x h0 h1 hi hN
    obtain ⟨N, rfl⟩ : ∃ M, N = M + 1 := ⟨N - 1, by omega⟩
    obtain ⟨o, l, a1, a2, a3, a4⟩ := lineAt_eq (F := F) hF hd hw hr (i := i) (by omega)
    have h2 := pw_le hw.1.2 (hw.2.2.1 o a1)
    rw [LX12_about_109, cellsOf_eq hF hd hw hr, zbd_some, if_pos (by omega), a4, zbd_some, zrd_ok (a := 181 + 6) ⟨by omega, by show _ < ((1960 : Nat) : Int); omega⟩, Int.toNat_natCast, show h (181 + 6) (196 * d + 49 * o + l) = V i by rw [a3, hV o a1 l a2]; exact hr.2.2.2 o a1 l a2]
    simp only [zjn, zlet, cnF]
    rw [wr_id (x := (i : Int) + 1) ⟨by omega, by omega⟩, show (i : Int) + 1 = ((i + 1 : Nat) : Int) by omega]
    by_cases q : V i = 0
    · rw [if_pos q, if_pos q, wr_id ⟨by omega, by omega⟩, show x + 0 = x by omega]
      exact ih (i + 1) N x h0 (by omega) (by omega) (by omega)
    · rw [if_neg q, if_neg q, wr_id ⟨by omega, by omega⟩]
      exact ih (i + 1) N (x + 1) (by omega) (by omega) (by omega) (by omega)
end AB
theorem ps_about {I5 I6 : HF → Prop} {F : Nat} (hF : 200 ≤ F) : PS_about F (InvP I4d I5 I6) := by
  intro h a1 a2 hI _ _
  have hI' := Inv_thrown hI
  have hD : ∀ d, d < 8 → DR h d := fun d hd => I4d_get hI.2.2.2.1 hd
  by_cases q : rfs h a1 = 0
  · obtain ⟨d, n, ar, tb, rfl, hd, hw, hc, hm⟩ := held hD q
    have hm' := RepM_thrown hm
    have hl := hw.2.1
    have hs := sto_le hw.1.2 hw.2.2.1 ar.length (Nat.le_refl _)
    suffices hs : ∃ r, fX11_about F 0 (d : Int) a2 h = some (r, h) ∧ fX12_about F 181 (d : Int) a2 h = some (r, stp h 181 0 0) by
      obtain ⟨r, e1, e2⟩ := hs
      exact ⟨r, h, _, e1, e2, hI'⟩
    unfold fX11_about fX12_about
    simp only [zjn, zpf, zgf, zlet]
    rw [refuse_c hD, zbd_some, if_pos q, refuse_m, zbd_some, rfs_thrown, if_pos q, drw_at hd]
    by_cases q0 : a2 = 0
    · rw [if_pos q0, if_pos q0, hc.1, msz (by omega) hm']
      exact ⟨_, rfl, rfl⟩
    · rw [if_neg q0, if_neg q0]
      by_cases q1 : a2 = 1
      · rw [if_pos q1, if_pos q1, hc.2.2.1, mops (by omega) hm', wr_id ⟨by omega, by omega⟩]
        refine ⟨_, rfl, ?_⟩
        have := about1_L (F := F) (show d < 10 by omega) hw hm' (k := fun x h => some (x, h)) ar.length F (Nat.le_refl _) (by omega)
        rw [List.drop_length] at this
        exact this
      · rw [if_neg q1, if_neg q1]
        by_cases q2 : a2 = 2
        · rw [if_pos q2, if_pos q2, cellCount_eq (kt_drw d hd) hw hc, zbd_some, cellsOf_eq (by omega) (by omega) hw hm', zbd_some]
          exact ⟨_, rfl, rfl⟩
        · rw [if_neg q2, if_neg q2]
          by_cases q3 : a2 = 3
          · rw [if_pos q3, if_pos q3]
            unfold fX0_otherThanZero
            simp only [zjn]
            have c1 := other_L (F := F) (kt_drw d hd) hw hc (k := fun x h => some (x, h)) (sto n ar ar.length) 0 F 0 (by omega) (by omega) (by omega) (by omega)
            have m1 := about3_L (F := F) (by omega) (V := h (117 + 4 * d + 3)) (fun o ho l hl' => hc.2.2.2.2.2 o ho l hl') (show d < 10 by omega) hw hm' (k := fun x h => some (x, h)) (sto n ar ar.length) 0 F 0 (by omega) (by omega) (by omega) (by omega)
            refine ⟨cnF (h (117 + 4 * d + 3)) 0 0 (sto n ar ar.length), ?_, m1⟩
            exact congrArg (fun z => zbd z fun r10 h => some (r10, h)) c1
          · rw [if_neg q3, if_neg q3]
            exact ⟨_, rfl, rfl⟩
  · refine ⟨rfs h a1, h, stp h 181 0 0, ?_, ?_, hI'⟩
    · unfold fX11_about
      rw [refuse_c hD, zbd_some, if_neg q]
    · unfold fX12_about
      simp only [zpf]
      rw [refuse_m, zbd_some, rfs_thrown, if_neg q]
