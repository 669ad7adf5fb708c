/-! laws: copies of the reference; the call -/
section CP
variable {F i : Nat} {k : HF → RO}
theorem cp169 (hi : i < 4) : ∀ (m v N : Nat) (h : HF), v + m = 80 → m + 1 ≤ N → ∃ h', LX12_laws_169 F 181 (i : Int) k N (v : Int) h = k h' ∧ (∀ c t, (194 ≤ c ∧ c ≤ 197) → v ≤ t → t < 80 → h' c (80 * i + t) = h c (320 + t)) ∧ ∀ c j, ((c < 194 ∨ 197 < c) ∨ j < 80 * i + v ∨ 80 * i + 80 ≤ j) → h' c j = h c j := by
  intro m
  induction m with
  | zero =>
    intro v N h hv hN
    obtain ⟨N, rfl⟩ : ∃ M, N = M + 1 := ⟨N - 1, by omega⟩
    refine ⟨h, ?_, fun c t _ h1 h2 => absurd h1 (by omega), fun _ _ _ => rfl⟩
    rw [LX12_laws_169, if_neg (by omega)]
  | succ m ih =>
    intro v N h hv hN
    obtain ⟨N, rfl⟩ : ∃ M, N = M + 1 := ⟨N - 1, by omega⟩
    have e1 : wr (320 + (v : Int)) = ((320 + v : Nat) : Int) := by rw [wr_id ⟨by omega, by omega⟩]; omega
    have e2 : wr (wr (80 * (i : Int)) + (v : Int)) = ((80 * i + v : Nat) : Int) := by rw [wr_id (x := 80 * (i : Int)) ⟨by omega, by omega⟩, wr_id ⟨by omega, by omega⟩]; omega
    rw [LX12_laws_169, if_pos (by omega), e1, e2, rdm13 (by omega), wtm13 (by omega), rdm14 (by omega), wtm14 (by omega), rdm15 (by omega), wtm15 (by omega), rdm16 (by omega), wtm16 (by omega), zlet_eq, wr_s (by omega)]
    rw [show stp h 194 (80 * i + v) (h 194 (320 + v)) 195 (320 + v) = h 195 (320 + v) from stp_ne (by omega)]
    generalize hg : stp (stp h 194 (80 * i + v) (h 194 (320 + v))) 195 (80 * i + v) (h 195 (320 + v)) = g
    have g1 : ∀ c j, (c ≠ 194 ∧ c ≠ 195) ∨ j ≠ 80 * i + v → g c j = h c j := fun c j z => by rw [← hg, stp_ne (by omega), stp_ne (by omega)]
    have g2 : ∀ c, (c = 194 ∨ c = 195) → g c (80 * i + v) = h c (320 + v) := fun c z => by
      rcases z with rfl | rfl
      · rw [← hg, stp_ne (by omega), stp_eq]
      · rw [← hg, stp_eq]
    rw [show stp g 196 (80 * i + v) (g 196 (320 + v)) 197 (320 + v) = g 197 (320 + v) from stp_ne (by omega), g1 196 _ (by omega), g1 197 _ (by omega)]
    obtain ⟨h', x1, x2, x3⟩ := ih (v + 1) N (stp (stp g 196 (80 * i + v) (h 196 (320 + v))) 197 (80 * i + v) (h 197 (320 + v))) (by omega) (by omega)
    refine ⟨h', x1, fun c t hc h1 h2 => ?_, fun c j hq => ?_⟩
    · by_cases z : t = v
      · subst z
        rw [x3 _ _ (by omega)]
        by_cases w : c = 196 ∨ c = 197
        · rcases w with rfl | rfl
          · rw [stp_ne (by omega), stp_eq]
          · rw [stp_eq]
        · rw [stp_ne (by omega), stp_ne (by omega), g2 c (by omega)]
      · rw [x2 c t hc (by omega) h2, stp_ne (by omega), stp_ne (by omega), g1 _ _ (by omega)]
    · rw [x3 c j (by omega), stp_ne (by omega), stp_ne (by omega), g1 _ _ (by omega)]
theorem cp267 (hi : i < 4) : ∀ (m v N : Nat) (h : HF), v + m = 40 → m + 1 ≤ N → ∃ h', LX12_laws_267 F 181 (i : Int) k N (v : Int) h = k h' ∧ (∀ c t, (c = 200 ∨ c = 201) → v ≤ t → t < 40 → h' c (40 * i + t) = h c (160 + t)) ∧ ∀ c j, ((c ≠ 200 ∧ c ≠ 201) ∨ j < 40 * i + v ∨ 40 * i + 40 ≤ j) → h' c j = h c j := by
  intro m
  induction m with
  | zero =>
    intro v N h hv hN
    obtain ⟨N, rfl⟩ : ∃ M, N = M + 1 := ⟨N - 1, by omega⟩
    refine ⟨h, ?_, fun c t _ h1 h2 => absurd h1 (by omega), fun _ _ _ => rfl⟩
    rw [LX12_laws_267, if_neg (by omega)]
  | succ m ih =>
    intro v N h hv hN
    obtain ⟨N, rfl⟩ : ∃ M, N = M + 1 := ⟨N - 1, by omega⟩
    have e1 : wr (160 + (v : Int)) = ((160 + v : Nat) : Int) := by rw [wr_id ⟨by omega, by omega⟩]; omega
    have e2 : wr (wr (40 * (i : Int)) + (v : Int)) = ((40 * i + v : Nat) : Int) := by rw [wr_id (x := 40 * (i : Int)) ⟨by omega, by omega⟩, wr_id ⟨by omega, by omega⟩]; omega
    rw [LX12_laws_267, if_pos (by omega), e1, e2, rdm19 (by omega), wtm19 (by omega), rdm20 (by omega), wtm20 (by omega), zlet_eq, wr_s (by omega)]
    rw [show stp h 200 (40 * i + v) (h 200 (160 + v)) 201 (160 + v) = h 201 (160 + v) from stp_ne (by omega)]
    generalize hg : stp (stp h 200 (40 * i + v) (h 200 (160 + v))) 201 (40 * i + v) (h 201 (160 + v)) = g
    have g1 : ∀ c j, (c ≠ 200 ∧ c ≠ 201) ∨ j ≠ 40 * i + v → g c j = h c j := fun c j z => by rw [← hg, stp_ne (by omega), stp_ne (by omega)]
    have g2 : ∀ c, (c = 200 ∨ c = 201) → g c (40 * i + v) = h c (160 + v) := fun c z => by
      rcases z with rfl | rfl
      · rw [← hg, stp_ne (by omega), stp_eq]
      · rw [← hg, stp_eq]
    obtain ⟨h', x1, x2, x3⟩ := ih (v + 1) N g (by omega) (by omega)
    refine ⟨h', x1, fun c t hc h1 h2 => ?_, fun c j hq => ?_⟩
    · by_cases z : t = v
      · subst z
        rw [x3 _ _ (by omega), g2 c hc]
      · rw [x2 c t hc (by omega) h2, g1 _ _ (by omega)]
    · rw [x3 c j (by omega), g1 _ _ (by omega)]
theorem cp323 (hi : i < 4) : ∀ (m v N : Nat) (h : HF), v + m = 7 → m + 1 ≤ N → ∃ h', LX12_laws_323 F 181 (i : Int) k N (v : Int) h = k h' ∧ (∀ c t, (c = 203 ∨ c = 204) → v ≤ t → t < 7 → h' c (7 * i + t) = h c (28 + t)) ∧ ∀ c j, ((c ≠ 203 ∧ c ≠ 204) ∨ j < 7 * i + v ∨ 7 * i + 7 ≤ j) → h' c j = h c j := by
  intro m
  induction m with
  | zero =>
    intro v N h hv hN
    obtain ⟨N, rfl⟩ : ∃ M, N = M + 1 := ⟨N - 1, by omega⟩
    refine ⟨h, ?_, fun c t _ h1 h2 => absurd h1 (by omega), fun _ _ _ => rfl⟩
    rw [LX12_laws_323, if_neg (by omega)]
  | succ m ih =>
    intro v N h hv hN
    obtain ⟨N, rfl⟩ : ∃ M, N = M + 1 := ⟨N - 1, by omega⟩
    have e1 : wr (28 + (v : Int)) = ((28 + v : Nat) : Int) := by rw [wr_id ⟨by omega, by omega⟩]; omega
    have e2 : wr (wr (7 * (i : Int)) + (v : Int)) = ((7 * i + v : Nat) : Int) := by rw [wr_id (x := 7 * (i : Int)) ⟨by omega, by omega⟩, wr_id ⟨by omega, by omega⟩]; omega
    rw [LX12_laws_323, if_pos (by omega), e1, e2, rdm22 (by omega), wtm22 (by omega), rdm23 (by omega), wtm23 (by omega), zlet_eq, wr_s (by omega)]
    rw [show stp h 203 (7 * i + v) (h 203 (28 + v)) 204 (28 + v) = h 204 (28 + v) from stp_ne (by omega)]
    generalize hg : stp (stp h 203 (7 * i + v) (h 203 (28 + v))) 204 (7 * i + v) (h 204 (28 + v)) = g
    have g1 : ∀ c j, (c ≠ 203 ∧ c ≠ 204) ∨ j ≠ 7 * i + v → g c j = h c j := fun c j z => by rw [← hg, stp_ne (by omega), stp_ne (by omega)]
    have g2 : ∀ c, (c = 203 ∨ c = 204) → g c (7 * i + v) = h c (28 + v) := fun c z => by
      rcases z with rfl | rfl
      · rw [← hg, stp_ne (by omega), stp_eq]
      · rw [← hg, stp_eq]
    obtain ⟨h', x1, x2, x3⟩ := ih (v + 1) N g (by omega) (by omega)
    refine ⟨h', x1, fun c t hc h1 h2 => ?_, fun c j hq => ?_⟩
    · by_cases z : t = v
      · subst z
        rw [x3 _ _ (by omega), g2 c hc]
      · rw [x2 c t hc (by omega) h2, g1 _ _ (by omega)]
    · rw [x3 c j (by omega), g1 _ _ (by omega)]
end CP
theorem isList_c {F : Nat} {x : Int} {h : HF} : fX11_isList F x h = some (bl (0 ≤ x ∧ x < 4), h) := by
  unfold fX11_isList
  simp only [zjn_eq]
  by_cases q : x < 0
  · rw [if_pos q, bl_neg (by omega)]; rfl
  · rw [if_neg q]
    by_cases q1 : x < 4
    · rw [if_pos q1, bl_pos (by omega)]; rfl
    · rw [if_neg q1, bl_neg (by omega)]; rfl
theorem isList_m {F : Nat} {x : Int} {h : HF} : fX12_isList F 181 x h = some (bl (0 ≤ x ∧ x < 4), h) := by
  unfold fX12_isList
  simp only [zjn_eq]
  by_cases q : x < 0
  · rw [if_pos q, bl_neg (by omega)]; rfl
  · rw [if_neg q]
    by_cases q1 : x < 4
    · rw [if_pos q1, bl_pos (by omega)]; rfl
    · rw [if_neg q1, bl_neg (by omega)]; rfl
theorem Inv_laws {h h' : HF} (hI : InvP I4d I5d I6d h) (e1 : h' 1 1 = 0) (e2 : h' 181 2 = 0) (e : ∀ c i, (c = 3 ∨ c = 4 ∨ (c = 8 ∧ i = 0) ∨ (10 ≤ c ∧ c ≤ 76) ∨ (117 ≤ c ∧ c ≤ 148) ∨ (183 ≤ c ∧ c ≤ 192) ∨ (c = 181 ∧ (i = 4 ∨ i = 15 ∨ i = 16))) → h' c i = h c i) (e3 : h' 86 0 = h' 181 5) (e4 : rng (h' 86 0)) (h6 : I6d h') : InvP I4d I5d I6d h' := by
  have hD : ∀ d, d < 8 → DR h d := fun d hd => I4d_get hI.2.2.2.1 hd
  have h8 := I4d_8 hI.2.2.2.1
  have h5 := I5d_get hI.2.2.2.2.1
  obtain ⟨_, ⟨o, oc, om, ol⟩, _, _, _, _⟩ := hI
  refine ⟨⟨[], ⟨by rw [e1]; rfl, fun i hi => absurd hi (by simp)⟩, ⟨by rw [e2]; rfl, fun i hi => absurd hi (by simp)⟩, by decide, fun b hb => absurd hb (by simp)⟩, ⟨o, TP_keep oc (e _ _ (by omega)) (fun i => e _ _ (by omega)), TP_keep om (e _ _ (by omega)) (fun i => e _ _ (by omega)), ol⟩, ⟨e3, e4⟩, I4d_put (fun d hd => DR_off (fun i k hi => e _ _ (by omega)) (e _ _ (by omega)) (e _ _ (by omega)) (fun o ho => e _ _ (by omega)) (fun k hk => e _ _ (by omega)) (hD d hd)) (by rw [e _ _ (by omega)]; exact h8), I5d_put (I5d_congr (fun c k x => by have := S5_out x; exact e c k (by omega)) h5), I6d_put h6⟩
theorem LCell_dis {S L : Nat} (hS : LCell S) (hL : LCell L) (h : L ≠ S) : L + 7 < S ∨ S + 7 < L := by unfold LCell at hS hL; omega
theorem zrl_at {h : HF} {i L : Nat} {f : Nat → RO} (hi : i < 4) (e : h 77 i = (L : Int)) : zrl h (0 + 77) (i : Int) f = f L := by
  have k77 : kl (0 + 77) = 4 := by decide +kernel
  unfold zrl
  rw [if_pos ⟨by omega, by rw [k77]; omega⟩, Int.toNat_natCast, show h (0 + 77) i = (L : Int) from e, if_pos (by omega), Int.toNat_natCast]
theorem wt77 {h : HF} {i : Nat} {v : Int} {f : HF → RO} (hi : i < 4) : zwr h (0 + 77) (i : Int) v f = f (stp h 77 i v) := by
  have k77 : kl (0 + 77) = 4 := by decide +kernel
  rw [zwr_ok (a := 0 + 77) ⟨by omega, by rw [k77]; omega⟩, Int.toNat_natCast]
