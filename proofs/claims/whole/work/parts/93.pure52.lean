/-! bound: the class -/
section AB
variable {n : Nat} {ar : List Nat} {tb : Nat → Nat → Int} {x u v y : List Nat}
theorem jn_E {E : Nat → Nat → Prop} (es : ∀ p q, E p q → E q p) (et : ∀ p q r, E p q → E q r → E p r) {a b : Nat} (hx : PLn n x) (ha : a < n) (hb : b < n) (hE : ∀ p, p < n → E p (x.getD p 0)) (hab : E a b) : ∀ p, p < n → E p ((jnL x a b).getD p 0) := by
  intro p hp
  have h1 := hE a ha
  have h2 := hE b hb
  have h3 := hE p hp
  have hMm : E (max (x.getD a 0) (x.getD b 0)) (min (x.getD a 0) (x.getD b 0)) := by
    have e : E (x.getD a 0) (x.getD b 0) := et _ _ _ (es _ _ h1) (et _ _ _ hab h2)
    rcases Nat.le_total (x.getD a 0) (x.getD b 0) with z | z
    · rw [Nat.min_eq_left z, Nat.max_eq_right z]; exact es _ _ e
    · rw [Nat.min_eq_right z, Nat.max_eq_left z]; exact e
  rw [jn_get (by rw [hx.1]; exact hp)]
  by_cases w : x.getD p 0 = max (x.getD a 0) (x.getD b 0)
  · rw [if_pos w]; rw [w] at h3; exact et _ _ _ h3 hMm
  · rw [if_neg w]; exact h3
/-- arguments that give values of one class of y, in one place -/
def TE (tb : Nat → Nat → Int) (n : Nat) (ar : List Nat) (y : List Nat) (p q : Nat) : Prop := ∀ o b, o < ar.length → b < clN n (ar.getD o 0) → y.getD (vl tb n ar o p b) 0 = y.getD (vl tb n ar o q b) 0 ∧ (ar.getD o 0 = 2 → y.getD (vl tb n ar o b p) 0 = y.getD (vl tb n ar o b q) 0)
theorem TE_cg (hw : WF n ar tb) (hu : PLn n u) (hcg : cgP tb n ar u) (hc : crs n u y) {p : Nat} (hp : p < n) : TE tb n ar y p (u.getD p 0) := by
  intro o b ho hb
  have hbu := hu.2.1 p
  have hle := rw_le (n := n) (r := ar.getD o 0) hw.1.1
  have st := cg_step hw hu hcg (b := b) ho hp (show u.getD p 0 < n by omega) hb (ln_idem hu.2.2 hp).symm
  have v1 := (vl_eq hw ho hp (show b < n by omega)).2
  have v2 := (vl_eq hw ho (show u.getD p 0 < n by omega) (show b < n by omega)).2
  have v3 := (vl_eq hw ho (show b < n by omega) hp).2
  have v4 := (vl_eq hw ho (show b < n by omega) (show u.getD p 0 < n by omega)).2
  exact ⟨by rw [← hc _ v1, ← hc _ v2, st.1], fun z => by rw [← hc _ v3, ← hc _ v4, st.2 z]⟩
theorem TE_ag (hw : WF n ar tb) (hy : PLn n y) (h : ∀ p, p < n → TE tb n ar y p (y.getD p 0)) : agB tb n ar y = true := by
  refine (clash_ag hw hy.2.1 hy.2.2).mp ?_
  rw [clo1_none]
  intro e _ he _
  rw [clo2_none]
  intro o _ ho
  rw [clo3_none]
  intro b _ hb
  have hn := hw.1
  exact h e (by omega) o b (by omega) (by omega)
end AB
section AC
variable {F A n : Nat} {ar : List Nat} {tb : Nat → Nat → Int} {u v : List Nat}
theorem rd97 {h : HF} {i : Nat} {f : Int → RO} {l : List Nat} (hL : LN h 97 l) (hl : l.length ≤ 7) (hi : i < l.length) : zrd h (94 + 3) (i : Int) f = f ((l.getD i 0 : Nat) : Int) := by
  have k6 : kl (94 + 3) = 7 := by decide +kernel
  rw [zrd_ok (a := 94 + 3) ⟨by omega, by rw [k6]; omega⟩, Int.toNat_natCast, show h (94 + 3) i = _ from hL i hi]
theorem above_L (hF : 9 ≤ F) (hA9 : 117 ≤ A) (hn : n ≤ 7) (hv : PLn n v) {k : HF → RO} : ∀ (m e N : Nat) (x : List Nat) (h : HF), e + m = n → m + 1 ≤ N → h 94 4 = (A : Int) → h A 0 = (n : Int) → LN h 96 x → PLn n x → LN h 97 v → ∃ (h' : HF) (y : List Nat), LX2_above_21 F 94 k N (e : Int) h = k h' ∧ LN h' 96 y ∧ PLn n y ∧ crs n x y ∧ (∀ p, e ≤ p → p < n → y.getD (v.getD p 0) 0 = y.getD p 0) ∧ (∀ E : Nat → Nat → Prop, (∀ p q, E p q → E q p) → (∀ p q r, E p q → E q r → E p r) → (∀ p, p < n → E p (x.getD p 0)) → (∀ p, p < n → E p (v.getD p 0)) → ∀ p, p < n → E p (y.getD p 0)) ∧ ∀ c i, c ≠ 96 → h' c i = h c i := by
  intro m
  induction m with
  | zero =>
    intro e N x h he hN hA h0 hL hx hV
    obtain ⟨N, rfl⟩ : ∃ M, N = M + 1 := ⟨N - 1, by omega⟩
    rw [LX2_above_21, zgd_at hA]
    simp only [zgf]
    rw [h0, if_neg (by omega)]
    exact ⟨h, x, rfl, hL, hx, fun w hw => ln_idem hx.2.2 hw, fun p h1 h2 => absurd h2 (by omega), fun E _ _ h1 _ => h1, fun _ _ _ => rfl⟩
  | succ m ih =>
    intro e N x h he hN hA h0 hL hx hV
    obtain ⟨N, rfl⟩ : ∃ M, N = M + 1 := ⟨N - 1, by omega⟩
    have hve := hv.2.1 e
    have hen : e < n := by omega
    have hvn : v.getD e 0 < n := by omega
    obtain ⟨g, j1, j2, j3⟩ := join_eq (F := F) hF hA9 hx.1 hn hen hvn hA h0 hL
    have hj := jn_PLn hx hen hvn
    obtain ⟨h', y, x1, x2, x3, x4, x5, x6, x7⟩ := ih (e + 1) N (jnL x e (v.getD e 0)) g (by omega) (by omega) (by rw [j3 _ _ (by decide)]; exact hA) (by rw [j3 _ _ (by omega)]; exact h0) j2 hj (LN_keep (fun i => j3 _ _ (by decide)) hV)
    refine ⟨h', y, ?_, x2, x3, fun w hw => ?_, fun p h1 h2 => ?_, fun E es et e1 e2 => x6 E es et (jn_E es et hx hen hvn e1 (e2 e hen)) e2, fun c i hc => by rw [x7 c i hc, j3 c i hc]⟩
    · rw [LX2_above_21, zgd_at hA]
      simp only [zgf]
      rw [h0, if_pos (by omega), rd97 hV (by rw [hv.1]; omega) (by rw [hv.1]; omega), j1, zbd_some, zlet_eq, wr_s (by omega)]
      exact x1
    · have bw := hx.2.1 w
      have a1 := x4 w hw
      have a2 := x4 (x.getD w 0) (by omega)
      have a3 := jn_crs hx hen hvn (fun v hv => ln_idem hx.2.2 hv) hx w hw
      rw [← a1, ← a2, a3]
    · by_cases z : p = e
      · subst z
        have a1 := x4 p hen
        have a2 := x4 (v.getD p 0) hvn
        have a3 := jn_pq hx hen hvn
        rw [← a1, ← a2, a3]
      · exact x5 p (by omega) h2
theorem choose2 {h : HF} (hF : 9 ≤ F) (hn : 1 ≤ n ∧ n ≤ 7) (hA9 : 117 ≤ A) (hA : h 94 4 = (A : Int)) (h0 : h A 0 = (n : Int)) (hc : ∀ j x, (cgL tb n ar)[j]? = some x → h 95 j = ((cdR x 0 0 n : Nat) : Int)) {k l : Nat} (hu : (cgL tb n ar)[k]? = some u) (hv : (cgL tb n ar)[l]? = some v) : ∃ h1 h2, fX2_choose F 94 (k : Int) h = some (0, h1) ∧ (∀ f : Int → RO, zrd h1 (94 + 1) (l : Int) f = f ((cdR v 0 0 n : Nat) : Int)) ∧ fX2_decode F 94 ((cdR v 0 0 n : Nat) : Int) (94 + 3) h1 = some (0, h2) ∧ LN h2 96 u ∧ LN h2 97 v ∧ ∀ c i, c ≠ 96 → c ≠ 97 → h2 c i = h c i := by
  have k95 : kl 95 = 877 := by decide +kernel
  have k96 : kl 96 = 7 := by decide +kernel
  have k97 : kl 97 = 7 := by decide +kernel
  have hlen := cg_len (tb := tb) (n := n) (ar := ar)
  have lt : ∀ (j : Nat) (x : List Nat), (cgL tb n ar)[j]? = some x → j < (cgL tb n ar).length := fun j x e => by
    by_cases z : j < (cgL tb n ar).length
    · exact z
    · rw [List.getElem?_eq_none (by omega)] at e; exact absurd e (by simp)
  have lk := lt k u hu
  have ll := lt l v hv
  obtain ⟨u1, u2, u3, u4⟩ := cgL_ok hn u (List.mem_of_getElem? hu)
  obtain ⟨v1, v2, v3, v4⟩ := cgL_ok hn v (List.mem_of_getElem? hv)
  obtain ⟨h1, a1, a2, a3⟩ := decode_eq (F := F) (A := A) (c := 94 + 2) (h := h) hF k96 u1 hn.2 (PLn_lt hn.2 ⟨u1, u2, u3⟩) hA h0
  obtain ⟨h2, b1, b2, b3⟩ := decode_eq (F := F) (A := A) (c := 94 + 3) (h := h1) hF k97 v1 hn.2 (PLn_lt hn.2 ⟨v1, v2, v3⟩) (by rw [a3 _ _ (by decide)]; exact hA) (by rw [a3 _ _ (by omega)]; exact h0)
  refine ⟨h1, h2, ?_, fun f => ?_, b1, LN_keep (fun i => b3 _ _ (by decide)) a2, b2, fun c i c1 c2 => by rw [b3 _ _ c2, a3 _ _ c1]⟩
  · unfold fX2_choose
    rw [zrd_ok (a := 94 + 1) ⟨by omega, by rw [show kl (94 + 1) = 877 from k95]; omega⟩, Int.toNat_natCast, show h (94 + 1) k = _ from hc k u hu, a1, zbd_some]
  · rw [zrd_ok (a := 94 + 1) ⟨by omega, by rw [show kl (94 + 1) = 877 from k95]; omega⟩, Int.toNat_natCast, a3 _ _ (by decide), show h (94 + 1) l = _ from hc l v hv]
/-- above: the least congruence that is coarser than both -/
theorem above_eq {h : HF} (hF : 900 ≤ F) (hA9 : 117 ≤ A) (hw : WF n ar tb) (hr : RepC h A n ar tb) (hA : h 94 4 = (A : Int)) (hf : h 94 1 = (((cgL tb n ar).length : Nat) : Int)) (hc : ∀ j x, (cgL tb n ar)[j]? = some x → h 95 j = ((cdR x 0 0 n : Nat) : Int)) {k l : Nat} (hu : (cgL tb n ar)[k]? = some u) (hv : (cgL tb n ar)[l]? = some v) : ∃ (h' : HF) (y : List Nat) (j0 : Nat), fX2_above F 94 (k : Int) (l : Int) h = some ((j0 : Int), h') ∧ (cgL tb n ar)[j0]? = some y ∧ (∀ j, j < j0 → (cgL tb n ar)[j]? ≠ some y) ∧ PLn n y ∧ crs n u y ∧ crs n v y ∧ (∀ z, PLn n z → crs n u z → crs n v z → crs n y z) ∧ ∀ c i, c ≠ 96 → c ≠ 97 → h' c i = h c i := by
  have hn := hw.1
  obtain ⟨u1, u2, u3, u4⟩ := cgL_ok hn u (List.mem_of_getElem? hu)
  obtain ⟨v1, v2, v3, v4⟩ := cgL_ok hn v (List.mem_of_getElem? hv)
  obtain ⟨g1, g2, a1, a2, a3, a4, a5, a6⟩ := choose2 (F := F) (A := A) (by omega) hn hA9 hA hr.1 hc hu hv
  obtain ⟨g3, y, b1, b2, b3, b4, b5, b6, b7⟩ := above_L (F := F) (A := A) (k := fun h => zbd (fX2_number F 94 h) fun r4 h => some (r4, h)) (by omega) hA9 hn.2 ⟨v1, v2, v3⟩ n 0 F u g2 (by omega) (by omega) (by rw [a6 _ _ (by decide) (by decide)]; exact hA) (by rw [a6 _ _ (by omega) (by omega)]; exact hr.1) a4 ⟨u1, u2, u3⟩ a5
  have cv : crs n v y := fun p hp => b5 p (Nat.zero_le _) hp
  have hag : agB tb n ar y = true := TE_ag hw b3 (b6 (TE tb n ar y) (fun p q e o b ho hb => ⟨(e o b ho hb).1.symm, fun z => ((e o b ho hb).2 z).symm⟩) (fun p q r e f o b ho hb => ⟨(e o b ho hb).1.trans (f o b ho hb).1, fun z => ((e o b ho hb).2 z).trans ((f o b ho hb).2 z)⟩) (fun p hp => TE_cg hw ⟨u1, u2, u3⟩ (agB_iff.mp u4) b4 hp) (fun p hp => TE_cg hw ⟨v1, v2, v3⟩ (agB_iff.mp v4) cv hp))
  obtain ⟨j0, d1, d2⟩ := first_idx _ (cgL_mem hn b3 hag)
  have fr : ∀ c i, c ≠ 96 → c ≠ 97 → g3 c i = h c i := fun c i c1 c2 => by rw [b7 c i c1, a6 c i c1 c2]
  have nb := number_eq (F := F) (A := A) (h := g3) (j0 := j0) hF hn (by rw [fr _ _ (by decide) (by decide)]; exact hA) (by rw [fr _ _ (by omega) (by omega)]; exact hr.1) b2 b3 (by rw [fr _ _ (by decide) (by decide)]; exact hf) (fun j x e => by rw [fr _ _ (by decide) (by decide)]; exact hc j x e) d1 d2
  refine ⟨g3, y, j0, ?_, d1, d2, b3, b4, cv, fun z hz c1 c2 => ?_, fr⟩
  · unfold fX2_above
    rw [a1, zbd_some, a2, a3, zbd_some]
    simp only [zjn_eq]
    refine b1.trans ?_
    show zbd (fX2_number F 94 g3) _ = _
    rw [nb, zbd_some]
  · intro p hp
    exact (b6 (fun p q => z.getD p 0 = z.getD q 0) (fun p q e => e.symm) (fun p q r e f => e.trans f) (fun p hp => (c1 p hp).symm) (fun p hp => (c2 p hp).symm) p hp).symm
end AC
