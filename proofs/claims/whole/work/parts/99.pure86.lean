/-! alike -/
theorem bc_new : ∀ x, x < 128 → ∀ v, v < 7 → x.testBit v = false → bc (x ||| 2 ^ v) 7 = bc x 7 + 1 := by decide +kernel
theorem bc_nodup : ∀ (s l : List Nat), (l ++ s).Nodup → (∀ v ∈ s, v < 7) → bc (usB (l ++ s)) 7 = bc (usB l) 7 + s.length
  | [], l, _, _ => by rw [List.append_nil]; rfl
  | v :: s, l, h, hv => by
    have e : l ++ v :: s = (l ++ [v]) ++ s := by rw [List.append_assoc]; rfl
    rw [e] at h ⊢
    rw [bc_nodup s (l ++ [v]) h (fun u hu => hv u (by simp [hu]))]
    have h1 : (l ++ [v]).Nodup := (List.nodup_append.mp h).1
    have v7 := hv v (by simp)
    have nb : (usB l).testBit v = false := by
      cases q : (usB l).testBit v with
      | false => rfl
      | true => exact absurd (us_bit.mp q).2 (nodup_snoc.mp h1).2
    rw [us_snoc v7, bc_new _ (us_lt l) v v7 nb]
    simp only [List.length_cons]
    omega
/-- between algebras of different sizes there is no map of what 3 -/
theorem MP_size {tb tb2 : Nat → Nat → Int} {n n2 : Nat} {ar : List Nat} (hn2 : n2 ≤ 7) (hne : n ≠ n2) : MP tb tb2 n n2 ar 3 = [] := by
  cases hc : MP tb tb2 n n2 ar 3 with
  | nil => rfl
  | cons x xs =>
    exfalso
    have hx : x ∈ MP tb tb2 n n2 ar 3 := by rw [hc]; simp
    obtain ⟨h1, s, h2, h3, h4⟩ := RM_ext n [] x hx
    rw [wh_iff (by omega)] at h1
    rw [List.nil_append] at h2
    subst h2
    have a1 := h1.1 (by omega)
    have a2 := h1.2 (by omega)
    have a3 := bc_nodup x [] (by simpa using a1) (fun v hv => by have := h4 v hv; omega)
    rw [List.nil_append, a2, bc_full n2 (by omega), us_nil, h3] at a3
    have : bc 0 7 = 0 := by decide
    omega
section AK
variable {F n n2 A B d e : Nat} {ar : List Nat} {tb tb2 : Nat → Nat → Int}
theorem line_cL {h : HF} (hkA : kt A = 0 + 3) (hkB : kt B = 0 + 3) (hw1 : WF n ar tb) (hr : RepC h A n ar tb) {k46 k38 : HF → RO} : ∀ (m i N : Nat), i + m = sto n ar ar.length → m + 1 ≤ N → LX0_hasLineOf_15 F A B k46 k38 N (i : Int) h = if alB (fun i => decide (h (A + 3) i = h (B + 3) i)) i m = true then k46 h else k38 h := by
  obtain ⟨-, -, -, -, -, kA3⟩ := zl_0 A hkA
  obtain ⟨-, -, -, -, -, kB3⟩ := zl_0 B hkB
  have stl := sto_le hw1.1.2 hw1.2.2.1 ar.length (Nat.le_refl _)
  have hl4 := hw1.2.1
  intro m
  induction m with
  | zero =>
    intro i N hi hN
    obtain ⟨N, rfl⟩ : ∃ M, N = M + 1 := ⟨N - 1, by omega⟩
    rw [LX0_hasLineOf_15, cellCount_eq hkA hw1 hr, zbd_some, if_neg (by omega)]
    rfl
  | succ m ih =>
    intro i N hi hN
    obtain ⟨N, rfl⟩ : ∃ M, N = M + 1 := ⟨N - 1, by omega⟩
    rw [LX0_hasLineOf_15, cellCount_eq hkA hw1 hr, zbd_some, if_pos (by omega), zrd_ok (a := A + 3) ⟨by omega, by omega⟩, zrd_ok (a := B + 3) ⟨by omega, by omega⟩, Int.toNat_natCast, zlet_eq, wr_s (by omega), ih (i + 1) N (by omega) (by omega), alB_s]
    by_cases q : h (A + 3) i = h (B + 3) i
    · rw [if_pos q, decide_eq_true q, Bool.true_and]
    · rw [if_neg q, decide_eq_false q, Bool.false_and, if_neg (by decide)]
theorem line_mL {g : HF} {V1 V2 : Nat → Int} (hF : 5 ≤ F) (hd : d < 10) (he : e < 10) (hw1 : WF n ar tb) (hw2 : WF n ar tb2) (h1 : ∀ o, o < ar.length → ∀ l, l < pw n (ar.getD o 0) → V1 (sto n ar o + l) = tb o l) (h2 : ∀ o, o < ar.length → ∀ l, l < pw n (ar.getD o 0) → V2 (sto n ar o + l) = tb2 o l) (hr : RepM g 184 185 186 187 d n ar tb) (hr2 : RepM g 184 185 186 187 e n ar tb2) {k98 : Int → HF → RO} : ∀ (m i N : Nat) (w : Bool), i + m = sto n ar ar.length → m + 1 ≤ N → LX12_alike_43 F 181 (d : Int) (e : Int) k98 N (bi w) (i : Int) g = k98 (bi (w && alB (fun i => decide (V1 i = V2 i)) i m)) g := by
  have stl := sto_le hw1.1.2 hw1.2.2.1 ar.length (Nat.le_refl _)
  have hl4 := hw1.2.1
  intro m
  induction m with
  | zero =>
    intro i N w hi hN
    obtain ⟨N, rfl⟩ : ∃ M, N = M + 1 := ⟨N - 1, by omega⟩
    rw [LX12_alike_43, cellsOf_eq hF hd hw1 hr, zbd_some, if_neg (by omega)]
    simp only [alB, Bool.and_true]
  | succ m ih =>
    intro i N w hi hN
    obtain ⟨N, rfl⟩ : ∃ M, N = M + 1 := ⟨N - 1, by omega⟩
    rw [LX12_alike_43, cellsOf_eq hF hd hw1 hr, zbd_some, if_pos (by omega)]
    cases w with
    | false => rw [if_pos (show bi false = 0 from rfl), Bool.false_and]
    | true =>
      obtain ⟨o, l, ho, hl, ei, e1⟩ := lineAt_eq (F := F) hF hd hw1 hr (show i < sto n ar ar.length by omega)
      obtain ⟨o', l', ho', hl', ei', e2⟩ := lineAt_eq (F := F) hF he hw2 hr2 (show i < sto n ar ar.length by omega)
      obtain ⟨rfl, rfl⟩ := sto_inj hl hl' (by omega : sto n ar o + l = sto n ar o' + l')
      have p2 := pw_le hw1.1.2 (hw1.2.2.1 o ho)
      rw [if_neg (show ¬ bi true = 0 by decide), e1, zbd_some, rdm6 (by omega), hr.2.2.2 o ho l hl, e2, zbd_some, rdm6 (by omega), hr2.2.2.2 o ho l hl, Bool.true_and, alB_s]
      simp only [zjn_eq, zlet_eq]
      rw [wr_s (by omega)]
      have v1 := h1 o ho l hl
      have v2 := h2 o ho l hl
      rw [← ei] at v1 v2
      have i1 := ih (i + 1) N true (by omega) (by omega)
      have i0 := ih (i + 1) N false (by omega) (by omega)
      rw [Bool.true_and] at i1
      rw [Bool.false_and] at i0
      by_cases q : tb o l = tb2 o l
      · rw [if_pos q, show decide (V1 i = V2 i) = true from decide_eq_true (by rw [v1, v2]; exact q), Bool.true_and]
        exact i1
      · rw [if_neg q, show decide (V1 i = V2 i) = false from decide_eq_false (by rw [v1, v2]; exact q), Bool.false_and]
        exact i0
end AK
theorem ps_alike {I6 : HF → Prop} {F : Nat} (hF : 200 ≤ F) : PS_alike F (InvP I4d I5d I6) := by
  intro h a1 a2 hI _ _
  have hD : ∀ d, d < 8 → DR h d := fun d hd => I4d_get hI.2.2.2.1 hd
  unfold fX11_alike fX12_alike
  rcases pair2 (F := F) (x := a1) (y := a2) (by omega) hD with ⟨r, r0, x1, x2⟩ | ⟨d, e, n, n2, ar, tb, tb2, rfl, rfl, hd, he, hw1, hw2, c1, c2, x1, x2⟩
  · refine ⟨r, h, stp h 181 0 0, ?_, ?_, Inv_thrown hI⟩
    · rw [x1, zbd_some, if_neg r0]
    · rw [zpf_eq, x2 _ (fun c i z => stp_ne (by omega)), zbd_some, if_neg r0]
  · rw [x1, zbd_some, if_pos rfl, drw_at hd, drw_at he, zgf_eq, zgf_eq, c1.1, c2.1]
    -- the reference, from a heap that the class left
    have stl := sto_le hw1.1.2 hw1.2.2.1 ar.length (Nat.le_refl _)
    have hl4 := hw1.2.1
    by_cases qn : n = n2
    · subst qn
      rw [if_pos rfl]
      have lc : fX0_hasLineOf F (117 + 4 * d) (117 + 4 * e) h = some (bi (alB (fun i => decide (h (117 + 4 * d + 3) i = h (117 + 4 * e + 3) i)) 0 (sto n ar ar.length)), h) := by
        unfold fX0_hasLineOf
        rw [cellCount_eq (kt_drw d hd) hw1 c1, zbd_some, cellCount_eq (kt_drw e he) hw2 c2, zbd_some, if_pos rfl, zjn_eq, zjn_eq]
        refine (line_cL (F := F) (kt_drw d hd) (kt_drw e he) hw1 c1 (k46 := fun h => zrz 1 h) (k38 := fun h => zrz 0 h) (sto n ar ar.length) 0 F (by omega) (by omega)).trans ?_
        cases alB (fun i => decide (h (117 + 4 * d + 3) i = h (117 + 4 * e + 3) i)) 0 (sto n ar ar.length) <;> rfl
      rw [lc, zbd_some]
      -- the reference's answer
      have ref : ∀ (h1 : HF) (r : Int) (h2 : HF), (∀ c i, 182 ≤ c → h1 c i = h c i) → (if alB (fun i => decide (h (117 + 4 * d + 3) i = h (117 + 4 * e + 3) i)) 0 (sto n ar ar.length) = true then some (2, stp h1 181 0 0) else (zbd (fX12_findMap F 181 (d : Int) (e : Int) 3 0 (stp h1 181 0 0)) fun r4 h => if r4 = 0 then some (0, h) else some (1, h))) = some (r, h2) → (zpf h1 181 0 0 fun h => zbd (fX12_refuseTwoDrawers F 181 (d : Int) (e : Int) h) fun r1 h => if r1 = 0 then zrd h (181 + 3) (d : Int) fun x2 => zrd h (181 + 3) (e : Int) fun x3 => zjn (fun y38_0 h => zjn (fun x98_4 h => zjn (fun y123_0 h => some (y123_0, h)) fun j123 => if x98_4 = 0 then zbd (fX12_findMap F 181 (d : Int) (e : Int) 3 0 h) fun r4 h => if r4 = 0 then j123 0 h else j123 1 h else j123 2 h) fun j98 => LX12_alike_43 F 181 (d : Int) (e : Int) j98 F y38_0 0 h) fun j38 => if x2 = x3 then j38 1 h else j38 0 h else some (r1, h)) = some (r, h2) := fun h1 r h2 k1 e0 => by
        obtain ⟨m1, m2, z1⟩ := x2 (stp h1 181 0 0) (fun c i z => by rw [stp_ne (by omega), k1 c i z])
        rw [zpf_eq, z1, zbd_some, if_pos rfl, msz (by omega) m1, msz (by omega) m2, zjn_eq, if_pos rfl]
        simp only [zjn_eq]
        refine (line_mL (F := F) (V1 := h (117 + 4 * d + 3)) (V2 := h (117 + 4 * e + 3)) (by omega) (show d < 10 by omega) (show e < 10 by omega) hw1 hw2 c1.2.2.2.2.2 c2.2.2.2.2.2 m1 m2 (sto n ar ar.length) 0 F true (by omega) (by omega)).trans ?_
        rw [Bool.true_and]
        refine Eq.trans ?_ e0
        cases alB (fun i => decide (h (117 + 4 * d + 3) i = h (117 + 4 * e + 3) i)) 0 (sto n ar ar.length) with
        | true => rfl
        | false => rfl
      cases qs : alB (fun i => decide (h (117 + 4 * d + 3) i = h (117 + 4 * e + 3) i)) 0 (sto n ar ar.length) with
      | true =>
        rw [if_neg (show ¬ bi true = 0 by decide)]
        refine ⟨2, h, stp h 181 0 0, rfl, ref h 2 _ (fun _ _ _ => rfl) ?_, Inv_thrown hI⟩
        rw [qs, if_pos rfl]
      | false =>
        rw [if_pos (show bi false = 0 from rfl)]
        obtain ⟨h1, y1, y2, y3⟩ := seek_c (F := F) (A := 117 + 4 * d) (B := 117 + 4 * e) (what := 3) (w := 0) hF (by omega) (by omega) (kt_drw d hd) (kt_drw e he) hw1 hw2 (by omega) c1 c2 (by omega)
        have y1' : fX7_seek F (0 + 98) (117 + 4 * d) (117 + 4 * e) 3 0 h = some (h1 98 7, h1) := y1
        obtain ⟨m1, m2, z1⟩ := x2 (stp h1 181 0 0) (fun c i z => by rw [stp_ne (by omega), y3 c i (by omega)])
        obtain ⟨r, h2, w1, w2, w3⟩ := find_m (F := F) (what := 3) (w := 0) hF (show d < 10 by omega) (show e < 10 by omega) hw1 hw2 (by omega) m1 m2 (by omega)
        have w1' : fX12_findMap F 181 (d : Int) (e : Int) 3 0 (stp h1 181 0 0) = some (r, h2) := w1
        have fin : InvP I4d I5d I6 h2 := Inv_while hI (fun c k z => by rw [w3 c k (by omega) (by omega), stp_ne (by omega), y3 c k (by omega)])
        rw [y1', zbd_some, zjn_eq]
        rcases y2 with ⟨j, x, p1, p2, p3, p4⟩ | ⟨p1, p2, p3⟩
        · rcases w2 with ⟨s0, j', x', s1, s2, s3⟩ | ⟨s0, s1, s2⟩
          · refine ⟨1, h1, h2, ?_, ref h1 1 h2 (fun c i z => y3 c i (by omega)) ?_, fin⟩
            · rw [p3, if_neg (by decide)]
            · rw [qs, if_neg (by decide), w1', zbd_some, s0, if_neg (by decide)]
          · have hj : j < (MP tb tb2 n n ar 3).length := by
              by_cases z : j < (MP tb tb2 n n ar 3).length
              · exact z
              · rw [List.getElem?_eq_none (by omega)] at p1; cases p1
            omega
        · rcases w2 with ⟨s0, j', x', s1, s2, s3⟩ | ⟨s0, s1, s2⟩
          · have hj : j' < (MP tb tb2 n n ar 3).length := by
              by_cases z : j' < (MP tb tb2 n n ar 3).length
              · exact z
              · rw [List.getElem?_eq_none (by omega)] at s1; cases s1
            omega
          · refine ⟨0, h1, h2, ?_, ref h1 0 h2 (fun c i z => y3 c i (by omega)) ?_, fin⟩
            · rw [if_pos p2]
            · rw [qs, if_neg (by decide), w1', zbd_some, s0, if_pos rfl]
    · rw [if_neg (by omega)]
      obtain ⟨m1, m2, z1⟩ := x2 (stp h 181 0 0) (fun c i z => stp_ne (by omega))
      obtain ⟨r, h2, w1, w2, w3⟩ := find_m (F := F) (what := 3) (w := 0) hF (show d < 10 by omega) (show e < 10 by omega) hw1 hw2 (by omega) m1 m2 (by omega)
      have w1' : fX12_findMap F 181 (d : Int) (e : Int) 3 0 (stp h 181 0 0) = some (r, h2) := w1
      have e0 : MP tb tb2 n n2 ar 3 = [] := MP_size hw2.1.2 qn
      rw [e0] at w2
      have r0 : r = 0 := by
        rcases w2 with ⟨_, j, x, s1, _⟩ | ⟨s0, _⟩
        · cases s1
        · exact s0
      have al0 : LX12_alike_43 F 181 (d : Int) (e : Int) (fun x98_4 h => if x98_4 = 0 then zbd (fX12_findMap F 181 (d : Int) (e : Int) 3 0 h) fun r4 h => if r4 = 0 then some (0, h) else some (1, h) else some (2, h)) F 0 0 (stp h 181 0 0) = some (0, h2) := by
        have L : ∀ N, LX12_alike_43 F 181 (d : Int) (e : Int) (fun x98_4 h => if x98_4 = 0 then zbd (fX12_findMap F 181 (d : Int) (e : Int) 3 0 h) fun r4 h => if r4 = 0 then some (0, h) else some (1, h) else some (2, h)) (N + 1) 0 0 (stp h 181 0 0) = some (0, h2) := fun N => by
          rw [LX12_alike_43, cellsOf_eq (F := F) (by omega) (show d < 10 by omega) hw1 m1, zbd_some]
          by_cases z : (0 : Int) < ((sto n ar ar.length : Nat) : Int)
          · rw [if_pos z, if_pos rfl, if_pos rfl, w1', zbd_some, r0, if_pos rfl]
          · rw [if_neg z, if_pos rfl, w1', zbd_some, r0, if_pos rfl]
        obtain ⟨N, eN⟩ : ∃ N, F = N + 1 := ⟨F - 1, by omega⟩
        have := L N
        rw [← eN] at this
        exact this
      refine ⟨0, h, h2, rfl, ?_, Inv_while hI (fun c k z => by rw [w3 c k (by omega) (by omega), stp_ne (by omega)])⟩
      rw [zpf_eq, z1, zbd_some, if_pos rfl, msz (by omega) m1, msz (by omega) m2, zjn_eq, if_neg (by omega)]
      exact al0
