/-! Drawers; refusals; cell -/
def DR (h : HF) (d : Nat) : Prop := (h (117 + 4 * d) 0 = 0 ∧ h (117 + 4 * d) 1 = 0 ∧ h (117 + 4 * d) 2 = 0 ∧ h (117 + 4 * d + 2) 0 = 0 ∧ h 184 d = 0) ∨ ∃ n ar tb, WF n ar tb ∧ RepC h (117 + 4 * d) n ar tb ∧ RepM h 184 185 186 187 d n ar tb
def I4d (h : HF) : Prop := (∀ d, d < 8 → DR h d) ∧ h 8 0 = 0
theorem DR_congr {h h' : HF} {d : Nat} (hd : d < 8) (e : ∀ c k, S4 c k = true → h' c k = h c k) (hD : DR h d) : DR h' d := by
  have c4 : ∀ i k, i ≤ 3 → h' (117 + 4 * d + i) k = h (117 + 4 * d + i) k := fun i k hi => e _ _ (by simp [S4]; omega)
  have c0 : ∀ k, h' (117 + 4 * d) k = h (117 + 4 * d) k := fun k => c4 0 k (by omega)
  have m4 : h' 184 d = h 184 d := e _ _ (by simp [S4]; omega)
  rcases hD with ⟨a1, a2, a3, a4, a5⟩ | ⟨n, ar, tb, hw, ⟨b1, b2, b3, b4, b5, b6⟩, ⟨d1, d2, d3, d4⟩⟩
  · exact Or.inl ⟨by rw [c0]; exact a1, by rw [c0]; exact a2, by rw [c0]; exact a3, by rw [c4 2 _ (by omega)]; exact a4, by rw [m4]; exact a5⟩
  · refine Or.inr ⟨n, ar, tb, hw, ⟨by rw [c0]; exact b1, by rw [c0]; exact b2, by rw [c0]; exact b3, fun o ho => by rw [c4 1 _ (by omega)]; exact b4 o ho, fun o ho => by rw [c4 2 _ (by omega)]; exact b5 o ho, fun o ho k hk => by rw [c4 3 _ (by omega)]; exact b6 o ho k hk⟩, ⟨by rw [m4]; exact d1, by rw [e 185 d (by simp [S4]; omega)]; exact d2, fun o ho => ?_, fun o ho k hk => ?_⟩⟩
    · have := hw.2.1
      rw [e 186 _ (by simp [S4]; omega)]; exact d3 o ho
    · have h1 := hw.2.1
      have h2 := pw_le hw.1.2 (hw.2.2.1 o ho)
      rw [e 187 _ (by simp [S4]; omega)]; exact d4 o ho k hk
theorem msk_on {S : Nat → Nat → Bool} {h : HF} {c k : Nat} (q : S c k = true) : msk S h c k = h c k := if_pos q
theorem I4d_get {h : HF} (hI : I4d (msk S4 h)) {d : Nat} (hd : d < 8) : DR h d := DR_congr hd (fun c k q => (msk_on q).symm) (hI.1 d hd)
theorem I4d_8 {h : HF} (hI : I4d (msk S4 h)) : h 8 0 = 0 := (msk_on (by decide)).symm.trans hI.2
theorem I4d_put {h : HF} (hI : ∀ d, d < 8 → DR h d) (h8 : h 8 0 = 0) : I4d (msk S4 h) := ⟨fun d hd => DR_congr hd (fun c k q => msk_on q) (hI d hd), (msk_on (by decide)).trans h8⟩
theorem kt_drw : ∀ d, d < 8 → kt (117 + 4 * d) = 0 + 3 := by decide
theorem zsa_5 (d : Nat) : zsa (0 + 5) d = 117 + 4 * d := rfl
def bl (P : Prop) [Decidable P] : Int := if P then 1 else 0
theorem bl_pos {P : Prop} [Decidable P] (h : P) : bl P = 1 := if_pos h
theorem bl_neg {P : Prop} [Decidable P] (h : ¬ P) : bl P = 0 := if_neg h
theorem isDrawer_c {F : Nat} {x : Int} {h : HF} : fX11_isDrawer F x h = some (bl (0 ≤ x ∧ x < 8), h) := by
  unfold fX11_isDrawer
  simp only [zjn]
  by_cases q : x < 0
  · rw [if_pos q, bl_neg (by omega)]; rfl
  · rw [if_neg q]
    by_cases q1 : x < 8
    · rw [if_pos q1, bl_pos (by omega)]; rfl
    · rw [if_neg q1, bl_neg (by omega)]; rfl
theorem isDrawer_m {F : Nat} {x : Int} {h : HF} : fX12_isDrawer F 181 x h = some (bl (0 ≤ x ∧ x < 8), h) := by
  unfold fX12_isDrawer
  simp only [zjn]
  by_cases q : x < 0
  · rw [if_pos q, bl_neg (by omega)]; rfl
  · rw [if_neg q]
    by_cases q1 : x < 8
    · rw [if_pos q1, bl_pos (by omega)]; rfl
    · rw [if_neg q1, bl_neg (by omega)]; rfl
theorem hasElement_eq {F A n : Nat} {x : Int} {h : HF} (e : h A 0 = (n : Int)) : fX0_hasElement F A x h = some (bl (0 ≤ x ∧ x < (n : Int)), h) := by
  unfold fX0_hasElement
  simp only [zjn, zgf, e]
  by_cases q : x < 0
  · rw [if_pos q, bl_neg (by omega)]; rfl
  · rw [if_neg q]
    by_cases q1 : x < (n : Int)
    · rw [if_pos q1, bl_pos (by omega)]; rfl
    · rw [if_neg q1, bl_neg (by omega)]; rfl
theorem misElement_eq {F d n : Nat} {x : Int} {h : HF} (hd : d < 10) (e : h 184 d = (n : Int)) : fX12_isElement F 181 (d : Int) x h = some (bl (0 ≤ x ∧ x < (n : Int)), h) := by
  unfold fX12_isElement
  simp only [zjn]
  rw [zrd_ok (a := 181 + 3) ⟨by omega, by show _ < ((10 : Nat) : Int); omega⟩, Int.toNat_natCast, show h (181 + 3) d = (n : Int) from e]
  by_cases q : x < 0
  · rw [if_pos q, bl_neg (by omega)]; rfl
  · rw [if_neg q]
    by_cases q1 : x < (n : Int)
    · rw [if_pos q1, bl_pos (by omega)]; rfl
    · rw [if_neg q1, bl_neg (by omega)]; rfl
/-- which drawers are refused -/
def rfs (h : HF) (x : Int) : Int := if 0 ≤ x ∧ x < 8 then (if h 184 x.toNat = 0 then -2 else 0) else -3
theorem refuse_m {F : Nat} {x : Int} {h : HF} : fX12_refuse F 181 x h = some (rfs h x, h) := by
  unfold fX12_refuse rfs
  rw [isDrawer_m, zbd_some]
  simp only [zjn]
  by_cases q : 0 ≤ x ∧ x < 8
  · rw [bl_pos q, if_neg (by decide), if_pos q, zrd_ok (a := 181 + 3) ⟨q.1, by show _ < ((10 : Nat) : Int); omega⟩]
    by_cases q1 : h (181 + 3) x.toNat = 0
    · rw [if_pos q1, if_pos q1]
    · rw [if_neg q1, if_neg q1]
  · rw [bl_neg q, if_pos rfl, if_neg q]
theorem DR_size {h : HF} {d : Nat} (hD : DR h d) : h (117 + 4 * d) 0 = h 184 d ∧ 0 ≤ h 184 d := by
  rcases hD with ⟨a1, a2, a3, a4, a5⟩ | ⟨n, ar, tb, hw, b, d1⟩
  · rw [a1, a5]; exact ⟨rfl, by decide⟩
  · rw [b.1, d1.1]; exact ⟨rfl, by omega⟩
theorem refuse_c {F : Nat} {x : Int} {h : HF} (hD : ∀ d, d < 8 → DR h d) : fX11_refuseDrawer F 0 x h = some (rfs h x, h) := by
  unfold fX11_refuseDrawer rfs
  rw [isDrawer_c, zbd_some]
  by_cases q : 0 ≤ x ∧ x < 8
  · rw [bl_pos q, if_neg (by decide), if_pos q, zrs_ok (a := 0 + 5) ⟨q.1, by show _ < ((8 : Nat) : Int); omega⟩, zsa_5]
    obtain ⟨e1, e2⟩ := DR_size (hD x.toNat (by omega))
    unfold fX0_isHeld
    simp only [zgf, zjn, e1]
    by_cases q1 : h 184 x.toNat = 0
    · rw [if_neg (show ¬ (0 : Int) < h 184 x.toNat by omega), zrz_0, zbd_some, if_pos rfl, if_pos q1]
    · rw [if_pos (show (0 : Int) < h 184 x.toNat by omega), zrz_1, zbd_some, if_neg (by decide), if_neg q1]
  · rw [bl_neg q, if_pos rfl, if_neg q]
/-- whether arguments fit an arity -/
def fitA (n r : Nat) (a b : Int) : Prop := (1 ≤ r → 0 ≤ a ∧ a < (n : Int)) ∧ (2 ≤ r → 0 ≤ b ∧ b < (n : Int))
theorem hasCell_eq {F A n o : Nat} {ar : List Nat} {tb : Nat → Nat → Int} {h : HF} {a b : Int} (hk : kt A = 0 + 3) (hw : WF n ar tb) (hr : RepC h A n ar tb) (ho : o < ar.length) : (fitA n (ar.getD o 0) a b → fX0_hasCell F A (o : Int) a b h = some (1, h)) ∧ (¬ fitA n (ar.getD o 0) a b → fX0_hasCell F A (o : Int) a b h = some (0, h)) := by
  obtain ⟨-, k1, -, k2, -, k3⟩ := zl_0 A hk
  have hl := hw.2.1
  have h2 := hw.2.2.1 o ho
  unfold fX0_hasCell
  simp only [zjn]
  have e1 : ∀ f : Int → RO, zrd h (A + 1) (o : Int) f = f ((ar.getD o 0 : Nat) : Int) := fun f => by rw [zrd_ok (a := A + 1) ⟨by omega, by rw [k1]; omega⟩, Int.toNat_natCast, hr.2.2.2.1 o ho]
  have ea := hasElement_eq (F := F) (x := a) hr.1
  have eb := hasElement_eq (F := F) (x := b) hr.1
  rw [e1]
  generalize ar.getD o 0 = r at h2 e1 ⊢
  unfold fitA
  by_cases q1 : r < 1
  · rw [if_pos (show (r : Int) < 1 by omega), e1, if_pos (show (r : Int) < 2 by omega)]
    exact ⟨fun _ => rfl, fun q => absurd ⟨fun z => absurd z (by omega), fun z => absurd z (by omega)⟩ q⟩
  · rw [if_neg (show ¬ (r : Int) < 1 by omega), ea, zbd_some]
    by_cases qa : 0 ≤ a ∧ a < (n : Int)
    · rw [bl_pos qa, if_neg (by decide), e1]
      by_cases q2 : r < 2
      · rw [if_pos (show (r : Int) < 2 by omega)]
        exact ⟨fun _ => rfl, fun q => absurd ⟨fun _ => qa, fun z => absurd z (by omega)⟩ q⟩
      · rw [if_neg (show ¬ (r : Int) < 2 by omega), eb, zbd_some]
        by_cases qb : 0 ≤ b ∧ b < (n : Int)
        · rw [bl_pos qb, if_neg (by decide)]
          exact ⟨fun _ => rfl, fun q => absurd ⟨fun _ => qa, fun _ => qb⟩ q⟩
        · rw [bl_neg qb, if_pos rfl]
          exact ⟨fun q => absurd (q.2 (by omega)) qb, fun _ => rfl⟩
    · rw [bl_neg qa, if_pos rfl]
      exact ⟨fun q => absurd (q.1 (by omega)) qa, fun _ => rfl⟩
theorem mareElements_eq {F d n o : Nat} {ar : List Nat} {tb : Nat → Nat → Int} {h : HF} {a b : Int} (hd : d < 10) (hw : WF n ar tb) (hr : RepM h 184 185 186 187 d n ar tb) (ho : o < ar.length) : (fitA n (ar.getD o 0) a b → fX12_areElements F 181 (d : Int) (o : Int) a b h = some (1, h)) ∧ (¬ fitA n (ar.getD o 0) a b → fX12_areElements F 181 (d : Int) (o : Int) a b h = some (0, h)) := by
  have hl := hw.2.1
  have h2 := hw.2.2.1 o ho
  unfold fX12_areElements
  simp only [zjn]
  have e1 := marity_eq (F := F) hd hw hr ho
  have ea := misElement_eq (F := F) (x := a) hd hr.1
  have eb := misElement_eq (F := F) (x := b) hd hr.1
  rw [e1, zbd_some]
  generalize ar.getD o 0 = r at h2 e1 ⊢
  unfold fitA
  by_cases q1 : r < 1
  · rw [if_pos (show (r : Int) < 1 by omega), e1, zbd_some, if_pos (show (r : Int) < 2 by omega)]
    exact ⟨fun _ => rfl, fun q => absurd ⟨fun z => absurd z (by omega), fun z => absurd z (by omega)⟩ q⟩
  · rw [if_neg (show ¬ (r : Int) < 1 by omega), ea, zbd_some]
    by_cases qa : 0 ≤ a ∧ a < (n : Int)
    · rw [bl_pos qa, if_neg (by decide), e1, zbd_some]
      by_cases q2 : r < 2
      · rw [if_pos (show (r : Int) < 2 by omega)]
        exact ⟨fun _ => rfl, fun q => absurd ⟨fun _ => qa, fun z => absurd z (by omega)⟩ q⟩
      · rw [if_neg (show ¬ (r : Int) < 2 by omega), eb, zbd_some]
        by_cases qb : 0 ≤ b ∧ b < (n : Int)
        · rw [bl_pos qb, if_neg (by decide)]
          exact ⟨fun _ => rfl, fun q => absurd ⟨fun _ => qa, fun _ => qb⟩ q⟩
        · rw [bl_neg qb, if_pos rfl]
          exact ⟨fun q => absurd (q.2 (by omega)) qb, fun _ => rfl⟩
    · rw [bl_neg qa, if_pos rfl]
      exact ⟨fun q => absurd (q.1 (by omega)) qa, fun _ => rfl⟩
