/-! addOperation, shape, the draft into a drawer -/
def rwN (n r : Nat) : Nat := if r = 0 then 1 else n
def clN (n r : Nat) : Nat := if r = 2 then n else 1
theorem rw_cl {n r : Nat} (hr : r ≤ 2) : rwN n r * clN n r = pw n r := by
  unfold rwN clN pw
  by_cases q0 : r = 0
  · rw [if_pos q0, if_neg (by omega), if_pos q0]
  · rw [if_neg q0, if_neg q0]
    by_cases q1 : r = 1
    · rw [if_neg (by omega), if_pos q1, Nat.mul_one]
    · rw [if_pos (by omega), if_neg q1]
theorem rows_eq {F A n r o : Nat} {h : HF} (hk : kt A = 0 + 3) (ho : o < 4) (h0 : h A 0 = (n : Int)) (h1 : h (A + 1) o = (r : Int)) : fX0_rows F A (o : Int) h = some (((rwN n r : Nat) : Int), h) := by
  obtain ⟨-, k1, -, k2, -, k3⟩ := zl_0 A hk
  unfold fX0_rows rwN
  simp only [zjn, zgf]
  rw [zrd_ok (a := A + 1) ⟨by omega, by rw [k1]; omega⟩, Int.toNat_natCast, h1]
  by_cases q0 : r = 0
  · rw [if_pos (by omega), if_pos q0]; rfl
  · rw [if_neg (by omega), if_neg q0, h0]
theorem cols_eq {F A n r o : Nat} {h : HF} (hk : kt A = 0 + 3) (ho : o < 4) (h0 : h A 0 = (n : Int)) (h1 : h (A + 1) o = (r : Int)) : fX0_columns F A (o : Int) h = some (((clN n r : Nat) : Int), h) := by
  obtain ⟨-, k1, -, k2, -, k3⟩ := zl_0 A hk
  unfold fX0_columns clN
  simp only [zjn, zgf]
  rw [zrd_ok (a := A + 1) ⟨by omega, by rw [k1]; omega⟩, Int.toNat_natCast, h1]
  by_cases q0 : r = 2
  · rw [if_pos (by omega), if_pos q0, h0]
  · rw [if_neg (by omega), if_neg q0]; rfl
theorem gd_lt {l : List Nat} {r o : Nat} (ho : o < l.length) : (l ++ [r]).getD o 0 = l.getD o 0 := by
  rw [List.getD_eq_getElem?_getD, List.getD_eq_getElem?_getD, List.getElem?_append_left ho]
theorem gd_eq {l : List Nat} {r : Nat} : (l ++ [r]).getD l.length 0 = r := by
  simp [List.getD_eq_getElem?_getD]
theorem sto_app {n : Nat} {l : List Nat} {r : Nat} : ∀ o, o ≤ l.length → sto n (l ++ [r]) o = sto n l o
  | 0, _ => rfl
  | o + 1, h => by
    simp only [sto]
    rw [sto_app o (by omega), gd_lt (by omega)]
theorem sto_last {n : Nat} {l : List Nat} {r : Nat} : sto n (l ++ [r]) (l.length + 1) = sto n l l.length + pw n r := by
  simp only [sto]
  rw [sto_app l.length (Nat.le_refl _), gd_eq]
theorem cod_app (r : Nat) : ∀ l : List Nat, cod (l ++ [r]) = cod l + (r + 1) * 10 ^ l.length
  | [] => by simp [cod]
  | x :: l => by
    simp only [List.cons_append, cod, List.length_cons]
    rw [cod_app r l, Nat.pow_succ, show (r + 1) * (10 ^ l.length * 10) = 10 * ((r + 1) * 10 ^ l.length) by rw [← Nat.mul_assoc, Nat.mul_comm 10]]
    omega
theorem addOp_L {F A l : Nat} {u : Int} {h : HF} {k : Int → HF → RO} (h1 : h A 1 = (l : Int)) (hl : l ≤ 4) : ∀ (m i N v : Nat), i + m = l → m + 1 ≤ N → v * 10 ^ m < 2 ^ 31 → LX0_addOperation_15 F A u k N (v : Int) (i : Int) h = k ((v * 10 ^ m : Nat) : Int) h := by
  intro m
  induction m with
  | zero =>
    intro i N v hi hN hv
    obtain ⟨N, rfl⟩ : ∃ M, N = M + 1 := ⟨N - 1, by omega⟩
    rw [LX0_addOperation_15]
    simp only [zgf]
    rw [h1, if_neg (by omega), Nat.pow_zero, Nat.mul_one]
  | succ m ih =>
    intro i N v hi hN hv
    obtain ⟨N, rfl⟩ : ∃ M, N = M + 1 := ⟨N - 1, by omega⟩
    have e : v * 10 ^ (m + 1) = v * 10 * 10 ^ m := by rw [Nat.pow_succ, Nat.mul_assoc, Nat.mul_comm 10]
    have hp : 1 ≤ 10 ^ m := Nat.pow_pos (by decide)
    have hle : v * 10 * 1 ≤ v * 10 * 10 ^ m := Nat.mul_le_mul_left _ hp
    rw [e] at hv ⊢
    have ihh := ih (i + 1) N (v * 10) (by omega) (by omega) hv
    generalize v * 10 * 10 ^ m = w at hv hle ihh
    rw [LX0_addOperation_15]
    simp only [zgf, zlet]
    rw [h1, if_pos (by omega), wr_id ⟨by omega, by omega⟩, wr_id ⟨by omega, by omega⟩, show (i : Int) + 1 = ((i + 1 : Nat) : Int) by omega, show (v : Int) * 10 = ((v * 10 : Nat) : Int) by omega]
    exact ihh
theorem sto_le' {n : Nat} {l : List Nat} (hn : n ≤ 7) (h2 : ∀ x ∈ l, x ≤ 2) {o : Nat} (ho : o ≤ l.length) : sto n l o ≤ 49 * o := sto_le hn (fun o ho => by
  rw [List.getD_eq_getElem?_getD, List.getElem?_eq_getElem ho]
  exact h2 _ (List.getElem_mem ho)) o ho
theorem addOp_eq {F A n r : Nat} {h : HF} {l : List Nat} {tb : Nat → Nat → Int} (hF : 200 ≤ F) (hk : kt A = 0 + 3) (hn : 1 ≤ n ∧ n ≤ 7) (hl : l.length < 4) (hr : r ≤ 2) (h2 : ∀ x ∈ l, x ≤ 2) (hR : RepC h A n l tb) : ∃ h', fX0_addOperation F A (r : Int) h = some (0, h') ∧ RepC h' A n (l ++ [r]) (fun o k => if o < l.length then tb o k else 0) ∧ ∀ c k, ((c < A ∨ A + 3 < c) ∨ (c = A ∧ k = 0) ∨ (c = A + 2 ∧ k = 0)) → h' c k = h c k := by
  obtain ⟨-, k1, -, k2, -, k3⟩ := zl_0 A hk
  obtain ⟨b0, b1, b2, b3, b4, b5⟩ := hR
  have hs := sto_le' (n := n) hn.2 h2 (Nat.le_refl l.length)
  have hp := pw_le hn.2 hr
  have hcl : cod l < 10 ^ l.length := cod_lt l h2
  have h10 : 10 ^ l.length ≤ 10 ^ 3 := Nat.pow_le_pow_right (by decide) (by omega)
  have hd : (r + 1) * 10 ^ l.length ≤ 3 * 10 ^ 3 := Nat.mul_le_mul (by omega) h10
  have hc := cod_app r l
  have hL := addOp_L (F := F) (u := (r : Int)) (k := fun (x34_2 : Int) (h : HF) => zgf h A 2 fun x3 =>
      zpf h A 2 (wr (x3 + x34_2)) fun h =>
      zgf h A 1 fun x4 =>
      zwr h (A + 1) x4 (r : Int) fun h =>
      zgf h A 1 fun x5 =>
      zpf h A 1 (wr (x5 + 1)) fun h =>
      zgf h A 1 fun x6 =>
      zlet (wr (x6 - 1)) fun x7 =>
      zgf h A 1 fun x8 =>
      zrd h (A + 2) x7 fun x9 =>
      zbd (fX0_rows F A x7 h) fun r10 h =>
      zbd (fX0_columns F A x7 h) fun r11 h =>
      zwr h (A + 2) x8 (wr (x9 + (wr (r10 * r11)))) fun h =>
      zrd h (A + 2) x7 fun x12 =>
      zgf h A 1 fun x13 =>
      zrd h (A + 2) x13 fun x14 =>
      zbd (fJ7_fill_fda19 F (A + 3) x12 x14 0 h) fun _ h =>
      some (0, h)) b1 (by omega) l.length 0 F (r + 1) (by omega) (by omega) (by omega)
  generalize (r + 1) * 10 ^ l.length = dg at hd hc hL
  generalize 10 ^ l.length = pl at hcl h10
  generalize e1 : stp (stp (stp h A 2 ((cod l + dg : Nat) : Int)) (A + 1) l.length (r : Int)) A 1 ((l.length + 1 : Nat) : Int) = g1
  have g1A : g1 A 1 = ((l.length + 1 : Nat) : Int) := by rw [← e1, stp_eq]
  have g1r : g1 (A + 1) l.length = (r : Int) := by rw [← e1, stp_ne (by omega), stp_eq]
  have g1o : ∀ c k, (c ≠ A ∨ (k ≠ 1 ∧ k ≠ 2)) → (c ≠ A + 1 ∨ k ≠ l.length) → g1 c k = h c k := fun c k x y => by rw [← e1, stp_ne (by omega), stp_ne (by omega), stp_ne (by omega)]
  generalize e2 : stp g1 (A + 2) (l.length + 1) ((sto n l l.length + pw n r : Nat) : Int) = g2
  have g2o : ∀ c k, (c ≠ A + 2 ∨ k ≠ l.length + 1) → g2 c k = g1 c k := fun c k x => by rw [← e2, stp_ne (by omega)]
  refine ⟨fil g2 (A + 3) (sto n l l.length) (sto n l l.length + pw n r - sto n l l.length) 0, ?_, ?_, ?_⟩
  · unfold fX0_addOperation
    simp only [zgf, zlet, zjn]
    rw [b1, if_pos (by omega), wr_id ⟨by omega, by omega⟩, show (r : Int) + 1 = ((r + 1 : Nat) : Int) by omega]
    refine hL.trans ?_
    simp only [zgf, zpf, zlet]
    rw [b2, wr_id ⟨by omega, by omega⟩, show ((cod l : Nat) : Int) + (dg : Int) = ((cod l + dg : Nat) : Int) by omega, stp_ne (show A ≠ A ∨ (1 : Nat) ≠ 2 from Or.inr (by decide)), b1, zwr_ok (a := A + 1) ⟨by omega, by rw [k1]; omega⟩, Int.toNat_natCast, stp_ne (show A ≠ A + 1 ∨ (1 : Nat) ≠ l.length from Or.inl (by omega)), stp_ne (show A ≠ A ∨ (1 : Nat) ≠ 2 from Or.inr (by decide)), b1, wr_id ⟨by omega, by omega⟩, show (l.length : Int) + 1 = ((l.length + 1 : Nat) : Int) by omega, e1, g1A, wr_id ⟨by omega, by omega⟩, show ((l.length + 1 : Nat) : Int) - 1 = (l.length : Int) by omega, zrd_ok (a := A + 2) ⟨by omega, by rw [k2]; omega⟩, Int.toNat_natCast, g1o _ _ (by omega) (by omega), b4 _ (Nat.le_refl _)]
    have h0' : g1 A 0 = (n : Int) := by rw [g1o _ _ (by omega) (by omega)]; exact b0
    rw [rows_eq hk hl h0' g1r, zbd_some, cols_eq hk hl h0' g1r, zbd_some, show ((rwN n r : Nat) : Int) * ((clN n r : Nat) : Int) = ((pw n r : Nat) : Int) by rw [← Int.natCast_mul, rw_cl hr], wr_id (x := ((pw n r : Nat) : Int)) ⟨by omega, by omega⟩, wr_id ⟨by omega, by omega⟩, show ((sto n l l.length : Nat) : Int) + ((pw n r : Nat) : Int) = ((sto n l l.length + pw n r : Nat) : Int) by omega, zwr_ok (a := A + 2) ⟨by omega, by rw [k2]; omega⟩, Int.toNat_natCast, e2, zrd_ok (a := A + 2) ⟨by omega, by rw [k2]; omega⟩, Int.toNat_natCast, g2o (A + 2) l.length (by omega), g1o (A + 2) l.length (by omega) (by omega), b4 _ (Nat.le_refl _), g2o A 1 (by omega), g1A, zrd_ok (a := A + 2) ⟨by omega, by rw [k2]; omega⟩, Int.toNat_natCast, show g2 (A + 2) (l.length + 1) = ((sto n l l.length + pw n r : Nat) : Int) by rw [← e2, stp_eq], fill_eq (by omega) (by rw [k3]; omega) (by omega) (by omega), zbd_some]
  · refine ⟨?_, ?_, ?_, fun o ho => ?_, fun o ho => ?_, fun o ho k hk' => ?_⟩
    · rw [fil_off (by omega), g2o _ _ (by omega), g1o _ _ (by omega) (by omega)]; exact b0
    · rw [fil_off (by omega), g2o _ _ (by omega), g1A]; simp
    · rw [fil_off (by omega), g2o _ _ (by omega), ← e1, stp_ne (by omega), stp_ne (by omega), stp_eq, hc]
    · rw [fil_off (by omega), g2o _ _ (by omega)]
      by_cases q : o = l.length
      · subst q; rw [g1r, gd_eq]
      · simp only [List.length_append, List.length_cons, List.length_nil] at ho
        rw [g1o _ _ (by omega) (by omega), gd_lt (by omega), b3 o (by omega)]
    · rw [fil_off (by omega)]
      simp only [List.length_append, List.length_cons, List.length_nil] at ho
      by_cases q : o = l.length + 1
      · subst q; rw [← e2, stp_eq, sto_last]
      · rw [g2o _ _ (by omega), g1o _ _ (by omega) (by omega), sto_app o (by omega), b4 o (by omega)]
    · simp only [List.length_append, List.length_cons, List.length_nil] at ho
      by_cases q : o = l.length
      · subst q
        rw [gd_eq] at hk'
        rw [sto_app _ (Nat.le_refl _), fil_in ⟨by omega, by omega⟩]
        show (0 : Int) = if l.length < l.length then tb l.length k else 0
        rw [if_neg (by omega)]
      · rw [gd_lt (by omega)] at hk'
        have hm := sto_mono (n := n) (ar := l) (o := o) l.length (by omega)
        rw [sto_app o (by omega), fil_off (by omega), g2o _ _ (by omega), g1o _ _ (by omega) (by omega)]
        show _ = if o < l.length then tb o k else 0
        rw [if_pos (by omega), b5 o (by omega) k hk']
  · intro c k x
    rw [fil_off (by omega), g2o _ _ (by omega), g1o _ _ (by omega) (by omega)]
theorem shape_L {F A n : Nat} {k : HF → RO} (hF : 200 ≤ F) (hk : kt A = 0 + 3) (hn : 1 ≤ n ∧ n ≤ 7) : ∀ (m N v : Nat) (l : List Nat) (h : HF), l.length + m = 4 → m + 1 ≤ N → okA m v = true → v < 2 ^ 31 → (∀ x ∈ l, x ≤ 2) → RepC h A n l (fun _ _ => 0) → ∃ h', LX0_shape_10 F A k N (v : Int) (l.length : Int) h = k h' ∧ RepC h' A n (l ++ arsOf m v) (fun _ _ => 0) ∧ ∀ c k, ((c < A ∨ A + 3 < c) ∨ (c = A ∧ k = 0) ∨ (c = A + 2 ∧ k = 0)) → h' c k = h c k := by
  intro m
  induction m with
  | zero =>
    intro N v l h hl hN hv _ h2 hR
    obtain ⟨N, rfl⟩ : ∃ M, N = M + 1 := ⟨N - 1, by omega⟩
    rw [LX0_shape_10, if_neg (by omega)]
    exact ⟨h, rfl, by simp only [arsOf, List.append_nil]; exact hR, fun _ _ _ => rfl⟩
  | succ m ih =>
    intro N v l h hl hN hv hv3 h2 hR
    obtain ⟨N, rfl⟩ : ∃ M, N = M + 1 := ⟨N - 1, by omega⟩
    rw [LX0_shape_10, if_pos (by omega)]
    by_cases q : v = 0
    · subst q
      rw [if_neg (by omega), ars_zero, List.append_nil]
      exact ⟨h, rfl, hR, fun _ _ _ => rfl⟩
    · rw [okA_s q] at hv
      simp only [Bool.and_eq_true, decide_eq_true_eq] at hv
      obtain ⟨g, e, hg, fg⟩ := addOp_eq (F := F) (r := v % 10 - 1) hF hk hn (by omega) (by omega) h2 hR
      have hz : (fun o k => if o < l.length then (fun _ _ => (0 : Int)) o k else (0 : Int)) = fun (_ _ : Nat) => (0 : Int) := by
        funext o k
        by_cases z : o < l.length
        · rw [if_pos z]
        · rw [if_neg z]
      rw [hz] at hg
      have hl' : (l ++ [v % 10 - 1]).length = l.length + 1 := by simp
      obtain ⟨h', e', hh, fh⟩ := ih N (v / 10) (l ++ [v % 10 - 1]) g (by rw [hl']; omega) (by omega) hv.2 (by omega) (by
        intro x hx
        rcases List.mem_append.mp hx with z | z
        · exact h2 x z
        · have := List.mem_singleton.mp z
          omega) hg
      refine ⟨h', ?_, ?_, fun c k x => by rw [fh c k x, fg c k x]⟩
      · rw [if_pos (by omega), zdv_ok (by decide), show (10 : Int) = ((10 : Nat) : Int) from rfl, wrem_N hv3, wr_id ⟨by omega, by omega⟩, show ((v % 10 : Nat) : Int) - 1 = ((v % 10 - 1 : Nat) : Int) by omega, e, zbd_some, zdv_ok (by decide), wdiv_N hv3]
        simp only [zlet]
        rw [wr_id ⟨by omega, by omega⟩, show (l.length : Int) + 1 = (((l ++ [v % 10 - 1]).length : Nat) : Int) by rw [hl']; omega]
        exact e'
      · rw [ars_s q]
        simpa using hh
theorem shape_eq {F A n v : Nat} {h : HF} (hF : 200 ≤ F) (hk : kt A = 0 + 3) (hn : 1 ≤ n ∧ n ≤ 7) (hv : okA 4 v = true) (h8 : h (A + 2) 0 = 0) : ∃ h', fX0_shape F A (n : Int) (v : Int) h = some (0, h') ∧ RepC h' A n (arsOf 4 v) (fun _ _ => 0) ∧ ∀ c k, ((c < A ∨ A + 3 < c) ∨ (c = A + 2 ∧ k = 0)) → h' c k = h c k := by
  have hlt := okA_lt 4 v hv
  have h0 : RepC (stp (stp (stp h A 0 (n : Int)) A 1 0) A 2 0) A n [] (fun _ _ => 0) := by
    refine ⟨?_, ?_, ?_, fun o ho => absurd ho (by simp), fun o ho => ?_, fun o ho => absurd ho (by simp)⟩
    · rw [stp_ne (Or.inr (by decide)), stp_ne (Or.inr (by decide)), stp_eq]
    · rw [stp_ne (Or.inr (by decide)), stp_eq]; rfl
    · rw [stp_eq]; rfl
    · have : o = 0 := by simpa using ho
      subst this
      rw [stp_ne (by omega), stp_ne (by omega), stp_ne (by omega), h8]; rfl
  obtain ⟨h', e, hh, fh⟩ := shape_L (F := F) (k := fun h => some (0, h)) hF hk hn 4 F v [] _ (by simp) (by omega) hv (by omega) (fun x hx => absurd hx (by simp)) h0
  refine ⟨h', ?_, by simpa using hh, fun c k x => ?_⟩
  · unfold fX0_shape fX0_begin
    simp only [zpf, zjn]
    rw [zbd_some]
    exact e
  · rw [fh c k (by omega), stp_ne (by omega), stp_ne (by omega), stp_ne (by omega)]
