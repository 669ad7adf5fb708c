/-! the class seeks the least line -/
def wT (tb : Nat → Nat → Int) (n : Nat) (ar : List Nat) (p : List Nat) : Nat := nm n (lnL tb n ar p)
theorem wT_cmp {n : Nat} {ar : List Nat} {tb : Nat → Nat → Int} {p q : List Nat} (hw : WF n ar tb) (hp : IsP n p) (hq : IsP n q) : (cmpL (lnL tb n ar p) (lnL tb n ar q) < 0 ↔ wT tb n ar p < wT tb n ar q) ∧ (cmpL (lnL tb n ar p) (lnL tb n ar q) = 0 ↔ wT tb n ar p = wT tb n ar q) ∧ (wT tb n ar p = wT tb n ar q → lnL tb n ar p = lnL tb n ar q) := by
  obtain ⟨a, b, c⟩ := cmp_nm (B := n) (lnL tb n ar p) (lnL tb n ar q) (by rw [lnL_len hw.2.2.1, lnL_len hw.2.2.1]) (lnL_lt hw hp) (lnL_lt hw hq)
  exact ⟨a, ⟨fun z => by unfold wT; rw [b.mp z], fun z => b.mpr (c z)⟩, c⟩
theorem bi_isSome_none : bi (Option.isSome (none : Option (List Nat))) = 0 := rfl
theorem bi_isSome_some {l : List Nat} : bi (Option.isSome (some l)) = 1 := rfl
section SK
variable {F n A : Nat} {ar : List Nat} {tb : Nat → Nat → Int}
theorem first_c {u1 : Nat} {u2 : Int} {k28 : HF → RO} : ∀ (m i N : Nat) (h : HF), i + m = 7 → m + 1 ≤ N → (∀ j, j < i → h 108 j = (j : Int) ∧ h 109 j = (j : Int)) → ∃ h', LX6_seek_2 F 105 u1 u2 k28 N (i : Int) h = k28 h' ∧ (∀ j, j < 7 → h' 108 j = (j : Int) ∧ h' 109 j = (j : Int)) ∧ ∀ c k, (c ≠ 108 ∧ c ≠ 109) → h' c k = h c k := by
  intro m
  induction m with
  | zero =>
    intro i N h hi hN hV
    obtain ⟨N, rfl⟩ : ∃ M, N = M + 1 := ⟨N - 1, by omega⟩
    exact ⟨h, by rw [LX6_seek_2, if_neg (by omega)], fun j hj => hV j (by omega), fun _ _ _ => rfl⟩
  | succ m ih =>
    intro i N h hi hN hV
    obtain ⟨N, rfl⟩ : ∃ M, N = M + 1 := ⟨N - 1, by omega⟩
    obtain ⟨h', e1, e2, e3⟩ := ih (i + 1) N (stp (stp h 108 i (i : Int)) 109 i (i : Int)) (by omega) (by omega) (fun j hj => by
      by_cases z : j = i
      · subst z; exact ⟨by rw [stp_ne (by omega), stp_eq], stp_eq ..⟩
      · rw [stp_ne (by omega), stp_ne (by omega), stp_ne (by omega), stp_ne (by omega)]; exact hV j (by omega))
    refine ⟨h', ?_, e2, fun c k hc => (e3 c k hc).trans (by rw [stp_ne (by omega), stp_ne (by omega)])⟩
    rw [LX6_seek_2, if_pos (by omega), wtp (by omega) (by omega), wtp (by omega) (by omega), zlet_eq, wr_id ⟨by omega, by omega⟩]
    exact e1
theorem keep_c {h : HF} {p : List Nat} (hn : n ≤ 7) (hl : p.length = n) (hP : RWp h 108 109 n p) : ∃ h', fX6_keepBest F 105 h = some (0, h') ∧ RWp h' 106 107 n p ∧ ∀ c k, (c ≠ 106 ∧ c ≠ 107) → h' c k = h c k := by
  obtain ⟨a1, a2, a3, a4⟩ := k10b
  refine ⟨cpy (cpy h 108 0 106 0 7) 109 0 107 0 7, ?_, ⟨fun i hi => ?_, fun v hv => ?_⟩, fun c k hc => by rw [cpy_off hc.2, cpy_off hc.1]⟩
  · unfold fX6_keepBest
    rw [zcp_ok (a := 105 + 3) (b := 105 + 1) (by omega) (by rw [show kl (105 + 3) = 7 from a3]; omega) (by rw [show kl (105 + 1) = 7 from a1]; omega), zcp_ok (a := 105 + 4) (b := 105 + 2) (by omega) (by rw [show kl (105 + 4) = 7 from a4]; omega) (by rw [show kl (105 + 2) = 7 from a2]; omega)]
    rfl
  · rw [cpy_off (by omega), cpy_in (by omega)]; exact hP.1 i hi
  · rw [cpy_in (by omega), cpy_off (by omega)]; exact hP.2 v hv
theorem sk_end {k121 : Int → HF → RO} {k76 : HF → RO} {u2 v3 v5 : Int} {N : Nat} {h : HF} : LX6_seek_45 F 105 A u2 k121 k76 (N + 1) v3 0 v5 h = k121 v3 h := by
  rw [LX6_seek_45]
  by_cases q : v5 < 5040
  · rw [if_pos q, if_pos rfl]
  · rw [if_neg q]
/-- all lines, from p on: the least, and how often it comes -/
theorem sk0 (hF : 9 ≤ F) (hA : A + 3 < 105 ∨ 109 < A) (hk : kt A = 0 + 3) (hw : WF n ar tb) {k121 : Int → HF → RO} {k76 : HF → RO} : ∀ (M N : Nat) (p q : List Nat) (v3 : Int) (cnt v5 : Nat) (h : HF), v5 + M = 5040 → M + 1 ≤ N → sqE (nxP n) M p = true → IsP n p → IsP n q → CSt h A n ar tb p q → h 105 2 = (cnt : Int) → cnt ≤ v5 → ((v3 = 0 ∨ v3 = 1)) → ∃ (h' : HF) (q' : List Nat) (v3' : Int), LX6_seek_45 F 105 A 0 k121 k76 N v3 1 (v5 : Int) h = k121 v3' h' ∧ (v3' = 0 ∨ v3' = 1) ∧ IsP n q' ∧ RWp h' 106 107 n q' ∧ wT tb n ar q' ≤ wT tb n ar q ∧ (∀ x ∈ sq (nxP n) M p, wT tb n ar q' ≤ wT tb n ar x) ∧ h' 105 2 = (((if wT tb n ar q' = wT tb n ar q then cnt else 0) + (sq (nxP n) M p).countP (fun x => decide (wT tb n ar x = wT tb n ar q')) : Nat) : Int) ∧ ∀ c i, (c < 105 ∨ 109 < c) → h' c i = h c i := by
  have hn := hw.1
  intro M
  induction M with
  | zero => intro N p q v3 cnt v5 h _ _ hE; rw [sqE] at hE; exact absurd hE (by decide)
  | succ M ih =>
    intro N p q v3 cnt v5 h hv hN hE hp hq hC h2 hc h3
    obtain ⟨N, rfl⟩ : ∃ M, N = M + 1 := ⟨N - 1, by omega⟩
    obtain ⟨R, h1, r1, r2, r3, r4, r5, r6⟩ := compare_c (F := F) (by omega) hA hk hw hp hq hC
    obtain ⟨c1, c2, c3⟩ := wT_cmp hw hp hq
    have hC1 : CSt h1 A n ar tb p q := CSt_keep hA (fun c i hc => r4 c i (.inl hc)) hC
    -- the state behind the comparing
    obtain ⟨hb, q1, v31, cnt1, e1, e2, e3, e4, e5, e6, e7, e8⟩ : ∃ (hb : HF) (q1 : List Nat) (v31 : Int) (cnt1 : Nat), (LX6_seek_45 F 105 A 0 k121 k76 (N + 1) v3 1 (v5 : Int) h = zbd (fX6_nextNumbering F 105 (n : Int) hb) fun r4 h => LX6_seek_45 F 105 A 0 k121 k76 N v31 r4 ((v5 + 1 : Nat) : Int) h) ∧ IsP n q1 ∧ CSt hb A n ar tb p q1 ∧ hb 105 2 = (cnt1 : Int) ∧ (v31 = 0 ∨ v31 = 1) ∧ (wT tb n ar q1 ≤ wT tb n ar q ∧ wT tb n ar q1 ≤ wT tb n ar p) ∧ ((wT tb n ar q1 = wT tb n ar q ∧ cnt1 = cnt + (if wT tb n ar p = wT tb n ar q then 1 else 0)) ∨ (wT tb n ar q1 < wT tb n ar q ∧ wT tb n ar q1 = wT tb n ar p ∧ cnt1 = 1)) ∧ ∀ c i, (c < 105 ∨ 109 < c) → hb c i = h c i := by
      have st : LX6_seek_45 F 105 A 0 k121 k76 (N + 1) v3 1 (v5 : Int) h = (if cmpL (lnL tb n ar p) (lnL tb n ar q) < 0 then (zbd (fX6_keepBest F 105 h1) fun _ h => zpf h 105 2 1 fun h => zgf h A 0 fun x3 => zbd (fX6_nextNumbering F 105 x3 h) fun r4 h => LX6_seek_45 F 105 A 0 k121 k76 N 0 r4 ((v5 + 1 : Nat) : Int) h) else if cmpL (lnL tb n ar p) (lnL tb n ar q) = 0 then (zgf h1 105 2 fun x7 => zpf h1 105 2 (wr (x7 + 1)) fun h => zgf h A 0 fun x3 => zbd (fX6_nextNumbering F 105 x3 h) fun r4 h => LX6_seek_45 F 105 A 0 k121 k76 N v3 r4 ((v5 + 1 : Nat) : Int) h) else (zgf h1 A 0 fun x3 => zbd (fX6_nextNumbering F 105 x3 h1) fun r4 h => LX6_seek_45 F 105 A 0 k121 k76 N v3 r4 ((v5 + 1 : Nat) : Int) h)) := by
        rw [LX6_seek_45, if_pos (by omega), if_neg (by decide), r6, zbd_some, zjn_eq]
        simp only [zlet_eq, wr_id (x := (v5 : Int) + 1) ⟨by omega, by omega⟩, if_pos]
        rfl
      rw [st]
      by_cases z : cmpL (lnL tb n ar p) (lnL tb n ar q) < 0
      · rw [if_pos z]
        obtain ⟨h2', k1, k2, k3⟩ := keep_c (F := F) (n := n) hn.2 hp.1.1 hC1.2.1
        have hC2 : CSt (stp h2' 105 2 1) A n ar tb p p := ⟨RepC_keep (fun i k hi => by rw [stp_ne (by omega)]; exact k3 _ _ (by omega)) hC1.1, RWp_keep (fun i => by rw [stp_ne (by omega)]; exact k3 _ _ (by omega)) (fun i => by rw [stp_ne (by omega)]; exact k3 _ _ (by omega)) hC1.2.1, RWp_keep (fun i => stp_ne (by omega)) (fun i => stp_ne (by omega)) k2⟩
        refine ⟨stp h2' 105 2 1, p, 0, 1, ?_, hp, hC2, stp_eq .., .inl rfl, ⟨by have := c1.mp z; omega, Nat.le_refl _⟩, .inr ⟨c1.mp z, rfl, rfl⟩, fun c i hc => ?_⟩
        · rw [k1, zbd_some, zpf_eq, zgf_eq, hC2.1.1]
        · rw [stp_ne (by omega), k3 _ _ (by omega), r4 _ _ (by omega)]
      · rw [if_neg z]
        have z1 : ¬ wT tb n ar p < wT tb n ar q := fun w => z (c1.mpr w)
        by_cases y : cmpL (lnL tb n ar p) (lnL tb n ar q) = 0
        · rw [if_pos y]
          have hC2 : CSt (stp h1 105 2 ((cnt + 1 : Nat) : Int)) A n ar tb p q := CSt_keep hA (fun c i hc => stp_ne (by omega)) hC1
          refine ⟨stp h1 105 2 ((cnt + 1 : Nat) : Int), q, v3, cnt + 1, ?_, hq, hC2, stp_eq .., h3, ⟨Nat.le_refl _, by omega⟩, .inl ⟨rfl, by rw [if_pos (c2.mp y)]⟩, fun c i hc => ?_⟩
          · rw [zgf_eq, r4 105 2 (by omega), h2, wr_id ⟨by omega, by omega⟩, zpf_eq, zgf_eq, show (cnt : Int) + 1 = ((cnt + 1 : Nat) : Int) by omega, hC2.1.1]
          · rw [stp_ne (by omega), r4 _ _ (by omega)]
        · rw [if_neg y]
          refine ⟨h1, q, v3, cnt, ?_, hq, hC1, by rw [r4 105 2 (by omega)]; exact h2, h3, ⟨Nat.le_refl _, by omega⟩, .inl ⟨rfl, by rw [if_neg (fun w => y (c2.mpr w))]; rfl⟩, fun c i hc => r4 _ _ (by omega)⟩
          rw [zgf_eq, hC1.1.1]
    obtain ⟨h4, n1, n2, n3⟩ := next_c (F := F) hF hn.1 hn.2 hp e3.2.1
    rw [e1, n1, zbd_some]
    rw [sqE] at hE
    rw [sq]
    cases e : nxP n p with
    | none =>
      refine ⟨h4, q1, v31, ?_, e5, e2, RWp_keep (fun i => n3 _ _ (by omega)) (fun i => n3 _ _ (by omega)) e3.2.2, e6.1, fun x hx => ?_, ?_, fun c i hc => (n3 c i (by omega)).trans (e8 c i hc)⟩
      · obtain ⟨N, rfl⟩ : ∃ M, N = M + 1 := ⟨N - 1, by omega⟩
        rw [bi_isSome_none, sk_end]
      · rw [List.mem_singleton.mp hx]; exact e6.2
      · rw [n3 105 2 (by omega), e4, List.countP_cons, List.countP_nil]
        rcases e7 with ⟨z1, z2⟩ | ⟨z1, z2, z3⟩
        · rw [if_pos z1, z2, z1]
          by_cases y : wT tb n ar p = wT tb n ar q
          · simp [y]
          · simp [y]
        · rw [if_neg (by omega), z3]; simp [z2]
    | some p' =>
      rw [e] at hE
      have hp' := (nxP_P hp e).1
      have hC4 : CSt h4 A n ar tb p' q1 := ⟨RepC_keep (fun i k hi => n3 _ _ (by omega)) e3.1, n2 p' e, RWp_keep (fun i => n3 _ _ (by omega)) (fun i => n3 _ _ (by omega)) e3.2.2⟩
      have hcb : cnt1 ≤ v5 + 1 := by
        rcases e7 with ⟨z1, z2⟩ | ⟨z1, z2, z3⟩
        · by_cases y : wT tb n ar p = wT tb n ar q
          · rw [if_pos y] at z2; omega
          · rw [if_neg y] at z2; omega
        · omega
      obtain ⟨h', q', v3', i1, i2, i3, i4, i5, i6, i7, i8⟩ := ih N p' q1 v31 cnt1 (v5 + 1) h4 (by omega) (by omega) hE hp' e2 hC4 (by rw [n3 105 2 (by omega)]; exact e4) hcb e5
      refine ⟨h', q', v3', ?_, i2, i3, i4, by omega, fun x hx => ?_, ?_, fun c i hc => (i8 c i hc).trans ((n3 c i (by omega)).trans (e8 c i hc))⟩
      · rw [bi_isSome_some]; exact i1
      · rcases List.mem_cons.mp hx with w | w
        · rw [w]; omega
        · exact i6 x w
      · rw [i7, List.countP_cons]
        rcases e7 with ⟨z1, z2⟩ | ⟨z1, z2, z3⟩
        · rw [z1, z2]
          by_cases y : wT tb n ar q' = wT tb n ar q
          · rw [if_pos y, if_pos y, y]
            by_cases x : wT tb n ar p = wT tb n ar q
            · simp [x]; omega
            · simp [x]
          · rw [if_neg y, if_neg y]
            have : wT tb n ar p ≠ wT tb n ar q' := by omega
            simp [this]
        · rw [if_neg (show ¬ wT tb n ar q' = wT tb n ar q by omega), z3]
          by_cases y : wT tb n ar q' = wT tb n ar q1
          · rw [if_pos y]
            have : wT tb n ar p = wT tb n ar q' := by omega
            simp [this]; omega
          · rw [if_neg y]
            have : wT tb n ar p ≠ wT tb n ar q' := by omega
            simp [this]
end SK
