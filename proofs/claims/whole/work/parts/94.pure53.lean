/-! bound: below of the class; the reference's tests -/
def ldb (u v : List Nat) (e : Nat) : Nat → Nat → Nat
  | 0, l => l
  | m + 1, l => if u.getD l 0 = u.getD e 0 ∧ v.getD l 0 = v.getD e 0 then l else ldb u v e m (l + 1)
theorem ldb_ok {u v : List Nat} {e : Nat} : ∀ (m l : Nat), l + m = e → (ldb u v e m l ≤ e ∧ u.getD (ldb u v e m l) 0 = u.getD e 0 ∧ v.getD (ldb u v e m l) 0 = v.getD e 0 ∧ ∀ i, l ≤ i → i < ldb u v e m l → ¬ (u.getD i 0 = u.getD e 0 ∧ v.getD i 0 = v.getD e 0))
  | 0, l, h => by
    obtain rfl : l = e := by omega
    exact ⟨Nat.le_refl _, rfl, rfl, fun i h1 h2 => absurd (show i < l from h2) (by omega)⟩
  | m + 1, l, h => by
    simp only [ldb]
    by_cases q : u.getD l 0 = u.getD e 0 ∧ v.getD l 0 = v.getD e 0
    · rw [if_pos q]
      exact ⟨by omega, q.1, q.2, fun i h1 h2 => absurd h2 (by omega)⟩
    · rw [if_neg q]
      obtain ⟨a1, a2, a3, a4⟩ := ldb_ok (u := u) (v := v) (e := e) m (l + 1) (by omega)
      refine ⟨a1, a2, a3, fun i h1 h2 => ?_⟩
      by_cases z : i = l
      · subst z; exact q
      · exact a4 i (by omega) h2
def mtL (n : Nat) (u v : List Nat) : List Nat := (List.range n).map (fun e => ldb u v e e 0)
section MT
variable {n : Nat} {ar : List Nat} {tb : Nat → Nat → Int} {u v : List Nat}
theorem mt_len : (mtL n u v).length = n := by unfold mtL; rw [List.length_map, List.length_range]
theorem mt_get {e : Nat} (he : e < n) : (mtL n u v).getD e 0 = ldb u v e e 0 := by
  unfold mtL
  rw [List.getD_eq_getElem?_getD, List.getElem?_map, List.getElem?_range he]
  rfl
theorem mt_iff {p q : Nat} (hp : p < n) (hq : q < n) : (mtL n u v).getD p 0 = (mtL n u v).getD q 0 ↔ (u.getD p 0 = u.getD q 0 ∧ v.getD p 0 = v.getD q 0) := by
  rw [mt_get hp, mt_get hq]
  obtain ⟨a1, a2, a3, a4⟩ := ldb_ok (u := u) (v := v) (e := p) p 0 (by omega)
  obtain ⟨b1, b2, b3, b4⟩ := ldb_ok (u := u) (v := v) (e := q) q 0 (by omega)
  constructor
  · intro e
    rw [e] at a2 a3
    exact ⟨by rw [← a2, b2], by rw [← a3, b3]⟩
  · rintro ⟨e1, e2⟩
    rcases Nat.lt_trichotomy (ldb u v p p 0) (ldb u v q q 0) with z | z | z
    · exact absurd ⟨by rw [a2, e1], by rw [a3, e2]⟩ (b4 _ (Nat.zero_le _) z)
    · exact z
    · exact absurd ⟨by rw [b2, e1], by rw [b3, e2]⟩ (a4 _ (Nat.zero_le _) z)
theorem mt_PLn : PLn n (mtL n u v) := by
  have hB : BD (mtL n u v) := fun i => by
    by_cases z : i < n
    · rw [mt_get z]; exact (ldb_ok i 0 (by omega)).1
    · rw [gd_out (by rw [mt_len]; omega)]; exact Nat.zero_le _
  refine ⟨mt_len, hB, ln_of hB (fun a ha => ?_)⟩
  have hb := hB a
  rw [mt_iff (by omega) ha, mt_get ha]
  obtain ⟨a1, a2, a3, a4⟩ := ldb_ok (u := u) (v := v) (e := a) a 0 (by omega)
  exact ⟨a2, a3⟩
theorem mt_ag (hw : WF n ar tb) (hu : PLn n u) (cu : cgP tb n ar u) (hv : PLn n v) (cv : cgP tb n ar v) : agB tb n ar (mtL n u v) = true := by
  refine TE_ag hw mt_PLn (fun p hp o b ho hb => ?_)
  have hbp := (mt_PLn (n := n) (u := u) (v := v)).2.1 p
  have hle := rw_le (n := n) (r := ar.getD o 0) hw.1.1
  have hpn : (mtL n u v).getD p 0 < n := by omega
  have hbn : b < n := by omega
  have e := (mt_iff (u := u) (v := v) hpn hp).mp (ln_idem mt_PLn.2.2 hp)
  have su := cg_step hw hu cu (b := b) ho hp hpn hb e.1.symm
  have sv := cg_step hw hv cv (b := b) ho hp hpn hb e.2.symm
  refine ⟨(mt_iff (vl_eq hw ho hp hbn).2 (vl_eq hw ho hpn hbn).2).mpr ⟨su.1, sv.1⟩, fun z => (mt_iff (vl_eq hw ho hbn hp).2 (vl_eq hw ho hbn hpn).2).mpr ⟨su.2 z, sv.2 z⟩⟩
end MT
section BC
variable {F A n : Nat} {ar : List Nat} {tb : Nat → Nat → Int} {u v : List Nat}
theorem below2_L (hn : n ≤ 7) (hu : u.length = n) (hv : v.length = n) {e : Nat} (he : e < n) {h : HF} (h1 : ∀ i, i ≤ e → h 96 i = ((u.getD i 0 : Nat) : Int)) (hV : LN h 97 v) {k : Int → Int → HF → RO} : ∀ (m l N : Nat), l + m = e → m + 1 ≤ N → LX2_below_36 F 94 (e : Int) k N (l : Int) h = k (e : Int) ((ldb u v e m l : Nat) : Int) h := by
  have k6 : kl (94 + 2) = 7 := by decide +kernel
  have r6 : ∀ (i : Nat) (f : Int → RO), i ≤ e → zrd h (94 + 2) (i : Int) f = f ((u.getD i 0 : Nat) : Int) := fun i f hi => by rw [zrd_ok (a := 94 + 2) ⟨by omega, by rw [k6]; omega⟩, Int.toNat_natCast, show h (94 + 2) i = _ from h1 i hi]
  intro m
  induction m with
  | zero =>
    intro l N hl hN
    obtain ⟨N, rfl⟩ : ∃ M, N = M + 1 := ⟨N - 1, by omega⟩
    rw [LX2_below_36, if_neg (by omega)]
    rfl
  | succ m ih =>
    intro l N hl hN
    obtain ⟨N, rfl⟩ : ∃ M, N = M + 1 := ⟨N - 1, by omega⟩
    rw [LX2_below_36, if_pos (by omega), r6 l _ (by omega), r6 e _ (by omega)]
    simp only [zjn_eq, zlet_eq, ldb]
    rw [wr_s (by omega), rd97 hV (by omega) (by omega), rd97 hV (by omega) (by omega), ih (l + 1) N (by omega) (by omega)]
    by_cases q1 : u.getD l 0 = u.getD e 0
    · rw [if_pos (by omega)]
      by_cases q2 : v.getD l 0 = v.getD e 0
      · rw [if_pos (by omega), if_pos ⟨q1, q2⟩]
      · rw [if_neg (by omega), if_neg (fun z => q2 z.2)]
    · rw [if_neg (by omega), if_neg (fun z => q1 z.1)]
theorem below1_L (hF : 9 ≤ F) (hn : n ≤ 7) (hu : u.length = n) (hv : v.length = n) {k : HF → RO} : ∀ (m N : Nat) (h : HF), m ≤ n → m + 1 ≤ N → (∀ i, i < m → h 96 i = ((u.getD i 0 : Nat) : Int)) → (∀ i, m ≤ i → i < n → h 96 i = (((mtL n u v).getD i 0 : Nat) : Int)) → LN h 97 v → ∃ h', LX2_below_29 F 94 k N ((m : Int) - 1) h = k h' ∧ LN h' 96 (mtL n u v) ∧ ∀ c i, c ≠ 96 → h' c i = h c i := by
  intro m
  induction m with
  | zero =>
    intro N h hm hN h1 h2 hV
    obtain ⟨N, rfl⟩ : ∃ M, N = M + 1 := ⟨N - 1, by omega⟩
    rw [LX2_below_29, if_pos (by omega)]
    exact ⟨h, rfl, fun i hi => h2 i (Nat.zero_le _) (by rw [mt_len] at hi; exact hi), fun _ _ _ => rfl⟩
  | succ m ih =>
    intro N h hm hN h1 h2 hV
    obtain ⟨N, rfl⟩ : ∃ M, N = M + 1 := ⟨N - 1, by omega⟩
    obtain ⟨h', x1, x2, x3⟩ := ih N (stp h 96 m ((ldb u v m m 0 : Nat) : Int)) (by omega) (by omega) (fun i hi => by rw [stp_ne (by omega)]; exact h1 i (by omega)) (fun i hi hi2 => by
      by_cases z : i = m
      · subst z; rw [stp_eq, mt_get hi2]
      · rw [stp_ne (by omega)]; exact h2 i (by omega) hi2) (LN_keep (fun i => stp_ne (by omega)) hV)
    refine ⟨h', ?_, x2, fun c i hc => by rw [x3 c i hc, stp_ne (Or.inl hc)]⟩
    rw [LX2_below_29, if_neg (by omega), show ((m + 1 : Nat) : Int) - 1 = (m : Int) by omega]
    refine (below2_L (F := F) hn hu hv (show m < n by omega) (fun i hi => h1 i (by omega)) hV (k := fun x80_3 x80_4 h => zwr h (94 + 2) x80_3 x80_4 fun h => LX2_below_29 F 94 k N (wr (x80_3 + (-1))) h) m 0 F (by omega) (by omega)).trans ?_
    show (zwr h (94 + 2) (m : Int) ((ldb u v m m 0 : Nat) : Int) fun h => LX2_below_29 F 94 k N (wr ((m : Int) + (-1))) h) = _
    rw [wt96 (by omega), wr_id ⟨by omega, by omega⟩, show (m : Int) + (-1) = (m : Int) - 1 by omega]
    exact x1
theorem below_eq {h : HF} (hF : 900 ≤ F) (hA9 : 117 ≤ A) (hw : WF n ar tb) (hr : RepC h A n ar tb) (hA : h 94 4 = (A : Int)) (hf : h 94 1 = (((cgL tb n ar).length : Nat) : Int)) (hc : ∀ j x, (cgL tb n ar)[j]? = some x → h 95 j = ((cdR x 0 0 n : Nat) : Int)) {k l : Nat} (hu : (cgL tb n ar)[k]? = some u) (hv : (cgL tb n ar)[l]? = some v) : ∃ (h' : HF) (j0 : Nat), fX2_below F 94 (k : Int) (l : Int) h = some ((j0 : Int), h') ∧ (cgL tb n ar)[j0]? = some (mtL n u v) ∧ (∀ j, j < j0 → (cgL tb n ar)[j]? ≠ some (mtL n u v)) ∧ ∀ c i, c ≠ 96 → c ≠ 97 → h' c i = h c i := by
  have hn := hw.1
  obtain ⟨u1, u2, u3, u4⟩ := cgL_ok hn u (List.mem_of_getElem? hu)
  obtain ⟨v1, v2, v3, v4⟩ := cgL_ok hn v (List.mem_of_getElem? hv)
  obtain ⟨g1, g2, a1, a2, a3, a4, a5, a6⟩ := choose2 (F := F) (A := A) (by omega) hn hA9 hA hr.1 hc hu hv
  obtain ⟨g3, b1, b2, b7⟩ := below1_L (F := F) (k := fun h => zbd (fX2_number F 94 h) fun r7 h => some (r7, h)) (by omega) hn.2 u1 v1 n F g2 (Nat.le_refl _) (by omega) (fun i hi => a4 i (by omega)) (fun i h1 h2 => absurd h2 (by omega)) a5
  obtain ⟨j0, d1, d2⟩ := first_idx _ (cgL_mem hn mt_PLn (mt_ag hw ⟨u1, u2, u3⟩ (agB_iff.mp u4) ⟨v1, v2, v3⟩ (agB_iff.mp v4)))
  have fr : ∀ c i, c ≠ 96 → c ≠ 97 → g3 c i = h c i := fun c i c1 c2 => by rw [b7 c i c1, a6 c i c1 c2]
  have nb := number_eq (F := F) (A := A) (h := g3) (j0 := j0) hF hn (by rw [fr _ _ (by decide) (by decide)]; exact hA) (by rw [fr _ _ (by omega) (by omega)]; exact hr.1) b2 mt_PLn (by rw [fr _ _ (by decide) (by decide)]; exact hf) (fun j x e => by rw [fr _ _ (by decide) (by decide)]; exact hc j x e) d1 d2
  refine ⟨g3, j0, ?_, d1, d2, fr⟩
  unfold fX2_below
  rw [a1, zbd_some, a2, a3, zbd_some, zgd_at (show g2 94 4 = (A : Int) by rw [a6 _ _ (by decide) (by decide)]; exact hA)]
  simp only [zjn_eq, zlet_eq, zgf]
  rw [show g2 A 0 = (n : Int) by rw [a6 _ _ (by omega) (by omega)]; exact hr.1, wr_id ⟨by omega, by omega⟩]
  refine b1.trans ?_
  show zbd (fX2_number F 94 g3) _ = _
  rw [nb, zbd_some]
end BC
/-! the reference -/
section BR
variable {F n : Nat} {h : HF} {u v z : List Nat}
theorem copyLine_eq {c : Nat} (hF : 9 ≤ F) (hc : c = 208 ∨ c = 209) (hn : n ≤ 7) (hu : u.length = n) (hL : LN h 207 u) : ∃ h', fX12_copyLine F 181 c h = some (0, h') ∧ LN h' c u ∧ ∀ c' i, c' ≠ c → h' c' i = h c' i := by
  have k8 : kl 208 = 7 := by decide +kernel
  have k9 : kl 209 = 7 := by decide +kernel
  have kc : kl c = 7 := by rcases hc with e | e <;> rw [e] <;> assumption
  have L : ∀ (m i N : Nat) (g : HF), i + m = 7 → m + 1 ≤ N → (∀ j, g 207 j = h 207 j) → (∀ j, j < i → g c j = h 207 j) → ∃ h', LX12_copyLine_2 F 181 c (fun h => some (0, h)) N (i : Int) g = some (0, h') ∧ (∀ j, j < 7 → h' c j = h 207 j) ∧ ∀ c' j, c' ≠ c → h' c' j = g c' j := by
    intro m
    induction m with
    | zero =>
      intro i N g hi hN h1 h2
      obtain ⟨N, rfl⟩ : ∃ M, N = M + 1 := ⟨N - 1, by omega⟩
      rw [LX12_copyLine_2, if_neg (by omega)]
      exact ⟨g, rfl, fun j hj => h2 j (by omega), fun _ _ _ => rfl⟩
    | succ m ih =>
      intro i N g hi hN h1 h2
      obtain ⟨N, rfl⟩ : ∃ M, N = M + 1 := ⟨N - 1, by omega⟩
      obtain ⟨h', x1, x2, x3⟩ := ih (i + 1) N (stp g c i (g 207 i)) (by omega) (by omega) (fun j => by rw [stp_ne (by omega)]; exact h1 j) (fun j hj => by
        by_cases w : j = i
        · subst w; rw [stp_eq]; exact h1 j
        · rw [stp_ne (by omega)]; exact h2 j (by omega))
      refine ⟨h', ?_, x2, fun c' j hc' => by rw [x3 c' j hc', stp_ne (Or.inl hc')]⟩
      rw [LX12_copyLine_2, if_pos (by omega), rdm26 (by omega), zwr_ok (a := c) ⟨by omega, by rw [kc]; omega⟩, Int.toNat_natCast, zlet_eq, wr_s (by omega)]
      exact x1
  obtain ⟨h', x1, x2, x3⟩ := L 7 0 F h (by omega) (by omega) (fun _ => rfl) (fun j hj => absurd hj (by omega))
  refine ⟨h', ?_, fun i hi => by rw [x2 i (by omega)]; exact hL i hi, x3⟩
  unfold fX12_copyLine
  simp only [zjn_eq]
  exact x1
def jsB (n : Nat) (u z : List Nat) : Bool := alB (fun p => decide (z.getD p 0 = z.getD (u.getD p 0) 0)) 0 n
def jbB (n : Nat) (u v z : List Nat) : Bool := alB (fun a => alB (fun b => decide ((decide (u.getD a 0 = u.getD b 0) && decide (v.getD a 0 = v.getD b 0)) = decide (z.getD a 0 = z.getD b 0))) 0 n) 0 n
theorem joins_eq {c : Nat} (hF : 9 ≤ F) (kc : kl c = 7) (hn : n ≤ 7) (hu : u.length = n) (hB : BD u) (hU : LN h c u) (hz : z.length = n) (hZ : LN h 207 z) : fX12_joins F 181 c (n : Int) h = some (bi (jsB n u z), h) := by
  have L : ∀ (m p N : Nat), p + m = n → m + 1 ≤ N → LX12_joins_2 F 181 c (n : Int) (fun h => zrz 1 h) (fun h => zrz 0 h) N (p : Int) h = if alB (fun p => decide (z.getD p 0 = z.getD (u.getD p 0) 0)) p m = true then zrz 1 h else zrz 0 h := by
    intro m
    induction m with
    | zero =>
      intro p N hp hN
      obtain ⟨N, rfl⟩ : ∃ M, N = M + 1 := ⟨N - 1, by omega⟩
      rw [LX12_joins_2, if_neg (by omega)]
      rfl
    | succ m ih =>
      intro p N hp hN
      obtain ⟨N, rfl⟩ : ∃ M, N = M + 1 := ⟨N - 1, by omega⟩
      have hb := hB p
      rw [LX12_joins_2, if_pos (by omega), rdm26 (by omega), hZ p (by omega), zrd_ok (a := c) ⟨by omega, by rw [kc]; omega⟩, Int.toNat_natCast, hU p (by omega), rdm26 (by omega), hZ _ (by omega), zlet_eq, wr_s (by omega), ih (p + 1) N (by omega) (by omega), alB_s]
      by_cases q : z.getD p 0 = z.getD (u.getD p 0) 0
      · rw [if_pos (by omega), decide_eq_true q, Bool.true_and]
      · rw [if_neg (by omega), decide_eq_false q, Bool.false_and, if_neg (by decide)]
  unfold fX12_joins
  simp only [zjn_eq]
  refine (L n 0 F (by omega) (by omega)).trans ?_
  show (if jsB n u z = true then zrz 1 h else zrz 0 h) = _
  cases jsB n u z <;> rfl
theorem joinsBoth_eq (hF : 9 ≤ F) (hn : n ≤ 7) (hu : u.length = n) (hU : LN h 208 u) (hv : v.length = n) (hV : LN h 209 v) (hz : z.length = n) (hZ : LN h 207 z) : fX12_joinsBoth F 181 (n : Int) h = some (bi (jbB n u v z), h) := by
  have r7 : ∀ (i : Nat) (f : Int → RO), i < n → zrd h (181 + 26) (i : Int) f = f ((z.getD i 0 : Nat) : Int) := fun i f hi => by rw [rdm26 (by omega), hZ i (by omega)]
  have r8 : ∀ (i : Nat) (f : Int → RO), i < n → zrd h (181 + 27) (i : Int) f = f ((u.getD i 0 : Nat) : Int) := fun i f hi => by rw [rdm27 (by omega), hU i (by omega)]
  have r9 : ∀ (i : Nat) (f : Int → RO), i < n → zrd h (181 + 28) (i : Int) f = f ((v.getD i 0 : Nat) : Int) := fun i f hi => by rw [rdm28 (by omega), hV i (by omega)]
  have L2 : ∀ (a : Nat) (k84 : Int → HF → RO), a < n → ∀ (m b N : Nat), b + m = n → m + 1 ≤ N → LX12_joinsBoth_9 F 181 (n : Int) (a : Int) k84 (fun h => zrz 0 h) N (b : Int) h = if alB (fun b => decide ((decide (u.getD a 0 = u.getD b 0) && decide (v.getD a 0 = v.getD b 0)) = decide (z.getD a 0 = z.getD b 0))) b m = true then k84 (a : Int) h else zrz 0 h := by
    intro a k84 ha m
    induction m with
    | zero =>
      intro b N hb hN
      obtain ⟨N, rfl⟩ : ∃ M, N = M + 1 := ⟨N - 1, by omega⟩
      rw [LX12_joinsBoth_9, if_neg (by omega)]
      rfl
    | succ m ih =>
      intro b N hb hN
      obtain ⟨N, rfl⟩ : ∃ M, N = M + 1 := ⟨N - 1, by omega⟩
      have hbn : b < n := by omega
      rw [LX12_joinsBoth_9, if_pos (by omega), r8 a _ ha, r8 b _ hbn]
      simp only [zjn_eq, zlet_eq, r7 a _ ha, r7 b _ hbn, r9 a _ ha, r9 b _ hbn]
      rw [wr_s (by omega), ih (b + 1) N (by omega) (by omega), alB_s]
      generalize alB (fun b => decide ((decide (u.getD a 0 = u.getD b 0) && decide (v.getD a 0 = v.getD b 0)) = decide (z.getD a 0 = z.getD b 0))) (b + 1) m = w
      by_cases q1 : u.getD a 0 = u.getD b 0 <;> by_cases q2 : v.getD a 0 = v.getD b 0 <;> by_cases q3 : z.getD a 0 = z.getD b 0
      · simp only [eq_true (show ((u.getD a 0 : Nat) : Int) = ((u.getD b 0 : Nat) : Int) by omega), eq_true (show ((v.getD a 0 : Nat) : Int) = ((v.getD b 0 : Nat) : Int) by omega), eq_true (show ((z.getD a 0 : Nat) : Int) = ((z.getD b 0 : Nat) : Int) by omega), decide_eq_true q1, decide_eq_true q2, decide_eq_true q3, ↓reduceIte]
        cases w <;> rfl
      · simp only [eq_true (show ((u.getD a 0 : Nat) : Int) = ((u.getD b 0 : Nat) : Int) by omega), eq_true (show ((v.getD a 0 : Nat) : Int) = ((v.getD b 0 : Nat) : Int) by omega), eq_false (show ¬ ((z.getD a 0 : Nat) : Int) = ((z.getD b 0 : Nat) : Int) by omega), decide_eq_true q1, decide_eq_true q2, decide_eq_false q3, ↓reduceIte]
        cases w <;> rfl
      · simp only [eq_true (show ((u.getD a 0 : Nat) : Int) = ((u.getD b 0 : Nat) : Int) by omega), eq_false (show ¬ ((v.getD a 0 : Nat) : Int) = ((v.getD b 0 : Nat) : Int) by omega), eq_true (show ((z.getD a 0 : Nat) : Int) = ((z.getD b 0 : Nat) : Int) by omega), decide_eq_true q1, decide_eq_false q2, decide_eq_true q3, ↓reduceIte]
        cases w <;> rfl
      · simp only [eq_true (show ((u.getD a 0 : Nat) : Int) = ((u.getD b 0 : Nat) : Int) by omega), eq_false (show ¬ ((v.getD a 0 : Nat) : Int) = ((v.getD b 0 : Nat) : Int) by omega), eq_false (show ¬ ((z.getD a 0 : Nat) : Int) = ((z.getD b 0 : Nat) : Int) by omega), decide_eq_true q1, decide_eq_false q2, decide_eq_false q3, ↓reduceIte]
        cases w <;> rfl
      · simp only [eq_false (show ¬ ((u.getD a 0 : Nat) : Int) = ((u.getD b 0 : Nat) : Int) by omega), eq_true (show ((z.getD a 0 : Nat) : Int) = ((z.getD b 0 : Nat) : Int) by omega), decide_eq_false q1, decide_eq_true q2, decide_eq_true q3, ↓reduceIte]
        cases w <;> rfl
      · simp only [eq_false (show ¬ ((u.getD a 0 : Nat) : Int) = ((u.getD b 0 : Nat) : Int) by omega), eq_false (show ¬ ((z.getD a 0 : Nat) : Int) = ((z.getD b 0 : Nat) : Int) by omega), decide_eq_false q1, decide_eq_true q2, decide_eq_false q3, ↓reduceIte]
        cases w <;> rfl
      · simp only [eq_false (show ¬ ((u.getD a 0 : Nat) : Int) = ((u.getD b 0 : Nat) : Int) by omega), eq_true (show ((z.getD a 0 : Nat) : Int) = ((z.getD b 0 : Nat) : Int) by omega), decide_eq_false q1, decide_eq_false q2, decide_eq_true q3, ↓reduceIte]
        cases w <;> rfl
      · simp only [eq_false (show ¬ ((u.getD a 0 : Nat) : Int) = ((u.getD b 0 : Nat) : Int) by omega), eq_false (show ¬ ((z.getD a 0 : Nat) : Int) = ((z.getD b 0 : Nat) : Int) by omega), decide_eq_false q1, decide_eq_false q2, decide_eq_false q3, ↓reduceIte]
        cases w <;> rfl
  have L1 : ∀ (m a N : Nat), a + m = n → m + 1 ≤ N → LX12_joinsBoth_2 F 181 (n : Int) (fun h => zrz 1 h) (fun h => zrz 0 h) N (a : Int) h = if alB (fun a => alB (fun b => decide ((decide (u.getD a 0 = u.getD b 0) && decide (v.getD a 0 = v.getD b 0)) = decide (z.getD a 0 = z.getD b 0))) 0 n) a m = true then zrz 1 h else zrz 0 h := by
    intro m
    induction m with
    | zero =>
      intro a N ha hN
      obtain ⟨N, rfl⟩ : ∃ M, N = M + 1 := ⟨N - 1, by omega⟩
      rw [LX12_joinsBoth_2, if_neg (by omega)]
      rfl
    | succ m ih =>
      intro a N ha hN
      obtain ⟨N, rfl⟩ : ∃ M, N = M + 1 := ⟨N - 1, by omega⟩
      rw [LX12_joinsBoth_2, if_pos (by omega)]
      refine (L2 a (fun x84_2 h => LX12_joinsBoth_2 F 181 (n : Int) (fun h => zrz 1 h) (fun h => zrz 0 h) N (wr (x84_2 + 1)) h) (by omega) n 0 F (by omega) (by omega)).trans ?_
      rw [wr_s (by omega), ih (a + 1) N (by omega) (by omega), alB_s]
      generalize alB (fun b => decide ((decide (u.getD a 0 = u.getD b 0) && decide (v.getD a 0 = v.getD b 0)) = decide (z.getD a 0 = z.getD b 0))) 0 n = w
      cases w <;> rfl
  unfold fX12_joinsBoth
  simp only [zjn_eq]
  refine (L1 n 0 F (by omega) (by omega)).trans ?_
  show (if jbB n u v z = true then zrz 1 h else zrz 0 h) = _
  cases jbB n u v z <;> rfl
end BR
