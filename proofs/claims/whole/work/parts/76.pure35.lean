/-! cells written one after the other -/
section DN
variable {L : Nat} {R C : Nat → Nat} {w : Nat → Nat → Nat → Bool} {ps : Nat → Nat → Nat → Nat} {g : Nat → Nat → Nat → Int}
def Dn (L : Nat) (R C : Nat → Nat) (w : Nat → Nat → Nat → Bool) (ps : Nat → Nat → Nat → Nat) (g : Nat → Nat → Nat → Int) (T : Nat → Nat → Int) (o a b : Nat) : Prop := ∀ o' a' b', o' < L → a' < R o' → b' < C o' → w o' a' b' = true → (o' < o ∨ (o' = o ∧ (a' < a ∨ (a' = a ∧ b' < b)))) → T o' (ps o' a' b') = g o' a' b'
theorem Dn_put {T : Nat → Nat → Int} {o a b : Nat} (hc : ∀ a' b', a' < R o → b' < C o → w o a' b' = true → ps o a' b' = ps o a b → g o a' b' = g o a b) (hD : Dn L R C w ps g T o a b) : Dn L R C w ps g (updT T o (ps o a b) (g o a b)) o a (b + 1) := by
  intro o' a' b' h1 h2 h3 h4 h5
  unfold updT
  by_cases q : o' = o ∧ ps o' a' b' = ps o a b
  · obtain ⟨rfl, q2⟩ := q
    rw [if_pos ⟨rfl, q2⟩, hc a' b' h2 h3 h4 q2]
  · rw [if_neg q]
    refine hD o' a' b' h1 h2 h3 h4 ?_
    rcases h5 with z | ⟨z1, z2 | ⟨z2, z3⟩⟩
    · exact Or.inl z
    · exact Or.inr ⟨z1, Or.inl z2⟩
    · by_cases y : b' = b
      · subst z1 z2 y; exact absurd ⟨rfl, rfl⟩ q
      · exact Or.inr ⟨z1, Or.inr ⟨z2, by omega⟩⟩
theorem Dn_skip {T : Nat → Nat → Int} {o a b : Nat} (hw : w o a b = false) (hD : Dn L R C w ps g T o a b) : Dn L R C w ps g T o a (b + 1) := by
  intro o' a' b' h1 h2 h3 h4 h5
  refine hD o' a' b' h1 h2 h3 h4 ?_
  rcases h5 with z | ⟨z1, z2 | ⟨z2, z3⟩⟩
  · exact Or.inl z
  · exact Or.inr ⟨z1, Or.inl z2⟩
  · by_cases y : b' = b
    · subst z1 z2 y; rw [hw] at h4; exact absurd h4 (by decide)
    · exact Or.inr ⟨z1, Or.inr ⟨z2, by omega⟩⟩
theorem Dn_a {T : Nat → Nat → Int} {o a b : Nat} (hb : C o ≤ b) (hD : Dn L R C w ps g T o a b) : Dn L R C w ps g T o (a + 1) 0 := by
  intro o' a' b' h1 h2 h3 h4 h5
  refine hD o' a' b' h1 h2 h3 h4 ?_
  rcases h5 with z | ⟨z1, z2 | ⟨z2, z3⟩⟩
  · exact Or.inl z
  · subst z1
    by_cases y : a' = a
    · exact Or.inr ⟨rfl, Or.inr ⟨y, by omega⟩⟩
    · exact Or.inr ⟨rfl, Or.inl (by omega)⟩
  · omega
theorem Dn_o {T : Nat → Nat → Int} {o a : Nat} (ha : R o ≤ a) (hD : Dn L R C w ps g T o a 0) : Dn L R C w ps g T (o + 1) 0 0 := by
  intro o' a' b' h1 h2 h3 h4 h5
  refine hD o' a' b' h1 h2 h3 h4 ?_
  rcases h5 with z | ⟨z1, z2 | ⟨z2, z3⟩⟩
  · by_cases y : o' = o
    · subst y; exact Or.inr ⟨rfl, Or.inl (by omega)⟩
    · exact Or.inl (by omega)
  · omega
  · omega
theorem Dn_0 {T : Nat → Nat → Int} : Dn L R C w ps g T 0 0 0 := by
  intro o' a' b' h1 h2 h3 h4 h5
  omega
end DN
/-! becomeImage of the class, into the draft -/
section IG
variable {F S X Y n n' : Nat} {ar : List Nat} {tb : Nat → Nat → Int} {olds news : Nat → Nat}
/-- what is read: the source and the two rows -/
def IM (h : HF) (S X Y n n' : Nat) (ar : List Nat) (tb : Nat → Nat → Int) (olds news : Nat → Nat) : Prop := RepC h S n ar tb ∧ (∀ i, i < n' → h X i = ((olds i : Nat) : Int)) ∧ ∀ v, v < n → h Y v = ((news v : Nat) : Int)
theorem IM_keep {h h' : HF} (hS : 9 < S) (hX : 9 < X) (hY : 9 < Y) (e : ∀ c k, 9 < c → h' c k = h c k) (hI : IM h S X Y n n' ar tb olds news) : IM h' S X Y n n' ar tb olds news := ⟨RepC_keep (fun i k hi => e _ _ (by omega)) hI.1, fun i hi => by rw [e _ _ hX]; exact hI.2.1 i hi, fun v hv => by rw [e _ _ hY]; exact hI.2.2 v hv⟩
def igF (tb : Nat → Nat → Int) (n : Nat) (ar : List Nat) (olds news : Nat → Nat) (o a b : Nat) : Nat := news (vl tb n ar o (olds a) (olds b))
theorem img3 (hS : 9 < S) (hX : 9 < X) (hY : 9 < Y) (hkS : kt S = 0 + 3) (hkX : kl X = 7) (hkY : kl Y = 7) (hw : WF n ar tb) (hn' : 1 ≤ n' ∧ n' ≤ 7) (ho : ∀ i, i < n' → olds i < n) {o a : Nat} (hol : o < ar.length) (ha : a < rwN n' (ar.getD o 0)) {k : Int → HF → RO} : ∀ (m b N : Nat) (h : HF) (T : Nat → Nat → Int), b + m = clN n' (ar.getD o 0) → m + 1 ≤ N → IM h S X Y n n' ar tb olds news → RepC h 6 n' ar T → Dn ar.length (fun o => rwN n' (ar.getD o 0)) (fun o => clN n' (ar.getD o 0)) (fun _ _ _ => true) (fun o a b => ix n' (ar.getD o 0) a b) (fun o a b => ((igF tb n ar olds news o a b : Nat) : Int)) T o a b → ∃ h' T', LX0_becomeImage_38 F 6 S X Y (o : Int) (a : Int) k N (b : Int) h = k (a : Int) h' ∧ RepC h' 6 n' ar T' ∧ Dn ar.length (fun o => rwN n' (ar.getD o 0)) (fun o => clN n' (ar.getD o 0)) (fun _ _ _ => true) (fun o a b => ix n' (ar.getD o 0) a b) (fun o a b => ((igF tb n ar olds news o a b : Nat) : Int)) T' o a (clN n' (ar.getD o 0)) ∧ ∀ c i, c ≠ 9 → h' c i = h c i := by
  have hl := hw.2.1
  have h2 := hw.2.2.1 o hol
  have hle := rw_le (n := n') (r := ar.getD o 0) hn'.1
  obtain ⟨-, k1, -, k2, -, k3⟩ := zl_0 6 (by decide)
  intro m
  induction m with
  | zero =>
    intro b N h T hb hN hI hr hD
    obtain ⟨N, rfl⟩ : ∃ M, N = M + 1 := ⟨N - 1, by omega⟩
    rw [LX0_becomeImage_38, cols_eq (by decide) (by omega) hr.1 (hr.2.2.2.1 o hol), zbd_some, if_neg (by omega)]
    exact ⟨h, T, rfl, hr, by rw [← show b = clN n' (ar.getD o 0) by omega]; exact hD, fun _ _ _ => rfl⟩
  | succ m ih =>
    intro b N h T hb hN hI hr hD
    obtain ⟨N, rfl⟩ : ∃ M, N = M + 1 := ⟨N - 1, by omega⟩
    have hbc : b < clN n' (ar.getD o 0) := by omega
    have hp := ix_pw h2 hn'.1 ha hbc
    have hs := sto_le hn'.2 hw.2.2.1 o (by omega)
    have hp2 := pw_le hn'.2 h2
    have oa := ho a (by omega)
    have ob := ho b (by omega)
    have hv := (vl_eq hw hol oa ob).2
    have hr' := RepC_put (v := ((igF tb n ar olds news o a b : Nat) : Int)) hp hr
    have hI' : IM (stp h (6 + 3) (sto n' ar o + ix n' (ar.getD o 0) a b) ((igF tb n ar olds news o a b : Nat) : Int)) S X Y n n' ar tb olds news := IM_keep hS hX hY (fun c k hc => stp_ne (Or.inl (by omega))) hI
    have hD' := Dn_put (o := o) (a := a) (b := b) (fun a' b' ha' hb' _ e => by obtain ⟨rfl, rfl⟩ := ix_inj h2 ha' hb' ha hbc e; rfl) hD
    obtain ⟨h', T', x1, x2, x3, x4⟩ := ih (b + 1) N _ _ (by omega) (by omega) hI' hr' hD'
    refine ⟨h', T', ?_, x2, x3, fun c i hc => by rw [x4 c i hc, stp_ne (Or.inl hc)]⟩
    rw [LX0_becomeImage_38, cols_eq (by decide) (by omega) hr.1 (hr.2.2.2.1 o hol), zbd_some, if_pos (by omega), spotG (by decide) hn' hl hw.2.2.1 hr hol ha hbc, zbd_some, zrd_ok (a := X) ⟨by omega, by rw [hkX]; omega⟩, zrd_ok (a := X) ⟨by omega, by rw [hkX]; omega⟩, Int.toNat_natCast, Int.toNat_natCast, hI.2.1 a (by omega), hI.2.1 b (by omega), cval hkS hw hI.1 hol oa ob, zbd_some, zrd_ok (a := Y) ⟨by omega, by rw [hkY]; have := hw.1.2; omega⟩, Int.toNat_natCast, hI.2.2 _ hv, zwr_ok (a := 6 + 3) ⟨by omega, by rw [k3]; omega⟩, Int.toNat_natCast, zlet_eq, wr_s (by omega)]
    exact x1
theorem img2 (hF : 8 ≤ F) (hS : 9 < S) (hX : 9 < X) (hY : 9 < Y) (hkS : kt S = 0 + 3) (hkX : kl X = 7) (hkY : kl Y = 7) (hw : WF n ar tb) (hn' : 1 ≤ n' ∧ n' ≤ 7) (ho : ∀ i, i < n' → olds i < n) {o : Nat} (hol : o < ar.length) {k : Int → HF → RO} : ∀ (m a N : Nat) (h : HF) (T : Nat → Nat → Int), a + m = rwN n' (ar.getD o 0) → m + 1 ≤ N → IM h S X Y n n' ar tb olds news → RepC h 6 n' ar T → Dn ar.length (fun o => rwN n' (ar.getD o 0)) (fun o => clN n' (ar.getD o 0)) (fun _ _ _ => true) (fun o a b => ix n' (ar.getD o 0) a b) (fun o a b => ((igF tb n ar olds news o a b : Nat) : Int)) T o a 0 → ∃ h' T', LX0_becomeImage_24 F 6 S X Y (o : Int) k N (a : Int) h = k (o : Int) h' ∧ RepC h' 6 n' ar T' ∧ Dn ar.length (fun o => rwN n' (ar.getD o 0)) (fun o => clN n' (ar.getD o 0)) (fun _ _ _ => true) (fun o a b => ix n' (ar.getD o 0) a b) (fun o a b => ((igF tb n ar olds news o a b : Nat) : Int)) T' (o + 1) 0 0 ∧ ∀ c i, c ≠ 9 → h' c i = h c i := by
  have hl := hw.2.1
  have hle := rw_le (n := n') (r := ar.getD o 0) hn'.1
  intro m
  induction m with
  | zero =>
    intro a N h T ha hN hI hr hD
    obtain ⟨N, rfl⟩ : ∃ M, N = M + 1 := ⟨N - 1, by omega⟩
    rw [LX0_becomeImage_24, rows_eq (by decide) (by omega) hr.1 (hr.2.2.2.1 o hol), zbd_some, if_neg (by omega)]
    exact ⟨h, T, rfl, hr, Dn_o (show rwN n' (ar.getD o 0) ≤ a by omega) hD, fun _ _ _ => rfl⟩
  | succ m ih =>
    intro a N h T ha hN hI hr hD
    obtain ⟨N, rfl⟩ : ∃ M, N = M + 1 := ⟨N - 1, by omega⟩
    obtain ⟨g, T1, y1, y2, y3, y4⟩ := img3 (F := F) hS hX hY hkS hkX hkY hw hn' ho hol (show a < rwN n' (ar.getD o 0) by omega) (k := fun x87_6 h => LX0_becomeImage_24 F 6 S X Y (o : Int) k N (wr (x87_6 + 1)) h) (clN n' (ar.getD o 0)) 0 F h T (by omega) (by omega) hI hr hD
    have hI' : IM g S X Y n n' ar tb olds news := IM_keep hS hX hY (fun c k hc => y4 c k (by omega)) hI
    obtain ⟨h', T', x1, x2, x3, x4⟩ := ih (a + 1) N g T1 (by omega) (by omega) hI' y2 (Dn_a (Nat.le_refl _) y3)
    refine ⟨h', T', ?_, x2, x3, fun c i hc => by rw [x4 c i hc, y4 c i hc]⟩
    rw [LX0_becomeImage_24, rows_eq (by decide) (by omega) hr.1 (hr.2.2.2.1 o hol), zbd_some, if_pos (by omega)]
    refine y1.trans ?_
    show LX0_becomeImage_24 F 6 S X Y (o : Int) k N (wr ((a : Int) + 1)) g = _
    rw [wr_s (by omega)]
    exact x1
theorem img1 (hF : 8 ≤ F) (hS : 9 < S) (hX : 9 < X) (hY : 9 < Y) (hkS : kt S = 0 + 3) (hkX : kl X = 7) (hkY : kl Y = 7) (hw : WF n ar tb) (hn' : 1 ≤ n' ∧ n' ≤ 7) (ho : ∀ i, i < n' → olds i < n) {k : HF → RO} : ∀ (m o N : Nat) (h : HF) (T : Nat → Nat → Int), o + m = ar.length → m + 1 ≤ N → IM h S X Y n n' ar tb olds news → RepC h 6 n' ar T → Dn ar.length (fun o => rwN n' (ar.getD o 0)) (fun o => clN n' (ar.getD o 0)) (fun _ _ _ => true) (fun o a b => ix n' (ar.getD o 0) a b) (fun o a b => ((igF tb n ar olds news o a b : Nat) : Int)) T o 0 0 → ∃ h' T', LX0_becomeImage_12 F 6 S X Y k N (o : Int) h = k h' ∧ RepC h' 6 n' ar T' ∧ TG n' ar T' (igF tb n ar olds news) ∧ ∀ c i, c ≠ 9 → h' c i = h c i := by
  have hl := hw.2.1
  intro m
  induction m with
  | zero =>
    intro o N h T ho hN hI hr hD
    obtain ⟨N, rfl⟩ : ∃ M, N = M + 1 := ⟨N - 1, by omega⟩
    rw [LX0_becomeImage_12]
    simp only [zgf]
    rw [hr.2.1, if_neg (by omega)]
    exact ⟨h, T, rfl, hr, fun o' a b h1 h2 h3 => hD o' a b h1 h2 h3 rfl (Or.inl (by omega)), fun _ _ _ => rfl⟩
  | succ m ih =>
    intro o N h T ho' hN hI hr hD
    obtain ⟨N, rfl⟩ : ∃ M, N = M + 1 := ⟨N - 1, by omega⟩
    have hle := rw_le (n := n') (r := ar.getD o 0) hn'.1
    obtain ⟨g, T1, y1, y2, y3, y4⟩ := img2 (F := F) hF hS hX hY hkS hkX hkY hw hn' ho (show o < ar.length by omega) (k := fun x93_5 h => LX0_becomeImage_12 F 6 S X Y k N (wr (x93_5 + 1)) h) (rwN n' (ar.getD o 0)) 0 F h T (by omega) (by omega) hI hr hD
    have hI' : IM g S X Y n n' ar tb olds news := IM_keep hS hX hY (fun c k hc => y4 c k (by omega)) hI
    obtain ⟨h', T', x1, x2, x3, x4⟩ := ih (o + 1) N g T1 (by omega) (by omega) hI' y2 y3
    refine ⟨h', T', ?_, x2, x3, fun c i hc => by rw [x4 c i hc, y4 c i hc]⟩
    rw [LX0_becomeImage_12]
    simp only [zgf]
    rw [hr.2.1, if_pos (by omega)]
    refine y1.trans ?_
    show LX0_becomeImage_12 F 6 S X Y k N (wr ((o : Int) + 1)) g = _
    rw [wr_s (by omega)]
    exact x1
theorem becomeImage_eq {h : HF} (hF : 200 ≤ F) (hS : 9 < S) (hX : 9 < X) (hY : 9 < Y) (hkS : kt S = 0 + 3) (hkX : kl X = 7) (hkY : kl Y = 7) (hw : WF n ar tb) (hn' : 1 ≤ n' ∧ n' ≤ 7) (ho : ∀ i, i < n' → olds i < n) (h8 : h 8 0 = 0) (hI : IM h S X Y n n' ar tb olds news) : ∃ h' T', fX0_becomeImage F 6 S (n' : Int) X Y h = some (0, h') ∧ RepC h' 6 n' ar T' ∧ TG n' ar T' (igF tb n ar olds news) ∧ ∀ c i, (c < 6 ∨ 9 < c ∨ (c = 8 ∧ i = 0)) → h' c i = h c i := by
  have hl := hw.2.1
  obtain ⟨e1, e2⟩ := ars_cod ar 4 hl (ar_mem hw)
  obtain ⟨g, y1, y2, y3⟩ := shape_eq (F := F) (A := 6) (n := n') (v := cod ar) (h := h) hF (by decide) hn' e1 h8
  rw [e2] at y2
  have hI' : IM g S X Y n n' ar tb olds news := IM_keep hS hX hY (fun c k hc => y3 c k (by omega)) hI
  obtain ⟨h', T', x1, x2, x3, x4⟩ := img1 (F := F) (by omega) hS hX hY hkS hkX hkY hw hn' ho (k := fun h => some (0, h)) ar.length 0 F g _ (by omega) (by omega) hI' y2 Dn_0
  refine ⟨h', T', ?_, x2, x3, fun c i hc => by rw [x4 c i (by omega), y3 c i (by omega)]⟩
  unfold fX0_becomeImage
  simp only [zgf, zjn]
  rw [hI.1.2.2.1, y1, zbd_some]
  exact x1
end IG
