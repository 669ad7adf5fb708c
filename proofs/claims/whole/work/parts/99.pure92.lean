/-! permutations: what the lines visited are -/
def LtP (p q : List Nat) : Prop := ∃ u, (∀ i, i < u → p.getD i 0 = q.getD i 0) ∧ p.getD u 0 < q.getD u 0
theorem LtP_irr {p : List Nat} (h : LtP p p) : False := by
  obtain ⟨u, _, h⟩ := h
  omega
theorem LtP_tr {p q r : List Nat} (h : LtP p q) (h' : LtP q r) : LtP p r := by
  obtain ⟨u, h1, h2⟩ := h
  obtain ⟨v, h3, h4⟩ := h'
  by_cases a : u < v
  · exact ⟨u, fun i hi => (h1 i hi).trans (h3 i (by omega)), by rw [← h3 u a]; exact h2⟩
  · by_cases b : u = v
    · subst b; exact ⟨u, fun i hi => (h1 i hi).trans (h3 i hi), by omega⟩
    · exact ⟨v, fun i hi => (h1 i (by omega)).trans (h3 i hi), by rw [h1 v (by omega)]; exact h4⟩
theorem sq_up {nx : List Nat → Option (List Nat)} {Pr : List Nat → Prop} (hs : ∀ l l', Pr l → nx l = some l' → Pr l' ∧ LtP l l') : ∀ (m : Nat) (l : List Nat), Pr l → (sq nx m l).Nodup ∧ ∀ x ∈ sq nx m l, Pr x ∧ (x = l ∨ LtP l x) := by
  intro m
  induction m with
  | zero => intro l _; exact ⟨List.nodup_nil, fun x hx => absurd hx (by rw [sq]; simp)⟩
  | succ m ih =>
    intro l hl
    rw [sq]
    cases e : nx l with
    | none =>
      refine ⟨by simp, fun x hx => ?_⟩
      simp only [List.mem_singleton] at hx
      subst hx; exact ⟨hl, .inl rfl⟩
    | some l' =>
      obtain ⟨p1, p2⟩ := hs l l' hl e
      obtain ⟨q1, q2⟩ := ih l' p1
      refine ⟨List.nodup_cons.mpr ⟨fun hm => ?_, q1⟩, fun x hx => ?_⟩
      · rcases (q2 l hm).2 with w | w
        · rw [← w] at p2; exact LtP_irr p2
        · exact LtP_irr (LtP_tr p2 w)
      · rcases List.mem_cons.mp hx with w | w
        · subst w; exact ⟨hl, .inl rfl⟩
        · refine ⟨(q2 x w).1, .inr ?_⟩
          rcases (q2 x w).2 with z | z
          · rw [z]; exact p2
          · exact LtP_tr p2 z
theorem sqL_len {nx : List Nat → Option (List Nat)} : ∀ (m : Nat) (l : List Nat) (k : Nat), sqL nx m l k = true → (sq nx m l).length = k + 1 ∧ sqE nx m l = true := by
  intro m
  induction m with
  | zero => intro l k h; rw [sqL] at h; exact absurd h (by decide)
  | succ m ih =>
    intro l k h
    rw [sqL] at h
    rw [sq, sqE]
    cases e : nx l with
    | none =>
      rw [e] at h
      have h : Nat.beq k 0 = true := h
      have := Nat.eq_of_beq_eq_true h
      subst this
      exact ⟨rfl, rfl⟩
    | some l' =>
      rw [e] at h
      cases k with
      | zero => exact absurd (show false = true from h) (by decide)
      | succ k =>
        obtain ⟨i1, i2⟩ := ih l' k h
        exact ⟨by rw [List.length_cons]; exact congrArg (· + 1) i1, i2⟩
/-- a permutation of 0 .. n - 1 as a line -/
def IsP (n : Nat) (p : List Nat) : Prop := VLn n p ∧ ∀ i j, i < n → j < n → p.getD i 0 = p.getD j 0 → i = j
theorem swp_get {l : List Nat} {i j k : Nat} (hi : i < l.length) (hj : j < l.length) : (swp l i j).getD k 0 = l.getD (if k = j then i else if k = i then j else k) 0 := by
  unfold swp
  rw [gset (by rw [List.length_set]; exact hj), gset hi]
  by_cases a : k = j
  · rw [if_pos a, if_pos a]
  · rw [if_neg a, if_neg a]
    by_cases b : k = i
    · rw [if_pos b, if_pos b]
    · rw [if_neg b, if_neg b]
theorem swp_len {l : List Nat} {i j : Nat} : (swp l i j).length = l.length := by unfold swp; rw [List.length_set, List.length_set]
theorem IsP_swp {n i j : Nat} {l : List Nat} (h : IsP n l) (hi : i < n) (hj : j < n) : IsP n (swp l i j) := by
  obtain ⟨⟨h1, h2⟩, h3⟩ := h
  have e := fun k => swp_get (l := l) (i := i) (j := j) (k := k) (by omega) (by omega)
  have tl : ∀ k, k < n → (if k = j then i else if k = i then j else k) < n := by
    intro k hk
    by_cases a : k = j
    · rw [if_pos a]; exact hi
    · rw [if_neg a]
      by_cases b : k = i
      · rw [if_pos b]; exact hj
      · rw [if_neg b]; exact hk
  refine ⟨⟨by rw [swp_len]; exact h1, fun k hk => ?_⟩, fun a b ha hb q => ?_⟩
  · rw [e]; exact h2 _ (tl k hk)
  · rw [e, e] at q
    have := h3 _ _ (tl a ha) (tl b hb) q
    revert this
    by_cases a1 : a = j
    · rw [if_pos a1]
      by_cases b1 : b = j
      · rw [if_pos b1]; omega
      · rw [if_neg b1]
        by_cases b2 : b = i
        · rw [if_pos b2]; omega
        · rw [if_neg b2]; omega
    · rw [if_neg a1]
      by_cases b1 : b = j
      · rw [if_pos b1]
        by_cases a2 : a = i
        · rw [if_pos a2]; omega
        · rw [if_neg a2]; omega
      · rw [if_neg b1]
        by_cases a2 : a = i
        · rw [if_pos a2]
          by_cases b2 : b = i
          · omega
          · rw [if_neg b2]; omega
        · rw [if_neg a2]
          by_cases b2 : b = i
          · rw [if_pos b2]; omega
          · rw [if_neg b2]; omega
theorem rvs_P {n : Nat} : ∀ (m : Nat) (l : List Nat) (i j : Nat), IsP n l → j < n → IsP n (rvs m l i j) ∧ ∀ k, k < i → (rvs m l i j).getD k 0 = l.getD k 0 := by
  intro m
  induction m with
  | zero => intro l i j h _; exact ⟨h, fun _ _ => rfl⟩
  | succ m ih =>
    intro l i j h hj
    rw [rvs]
    by_cases q : i < j
    · rw [if_pos q]
      obtain ⟨a, b⟩ := ih (swp l i j) (i + 1) (j - 1) (IsP_swp h (by omega) hj) (by omega)
      refine ⟨a, fun k hk => ?_⟩
      rw [b k (by omega), swp_get (by rw [h.1.1]; omega) (by rw [h.1.1]; omega), if_neg (by omega), if_neg (by omega)]
    · rw [if_neg q]; exact ⟨h, fun _ _ => rfl⟩
theorem pvt_sp {l : List Nat} : ∀ (j u : Nat), pvt l j = u + 1 → u + 1 ≤ j ∧ ¬ l.getD (u + 1) 0 < l.getD u 0 := by
  intro j
  induction j with
  | zero => intro u h; rw [pvt] at h; omega
  | succ j ih =>
    intro u h
    rw [pvt] at h
    by_cases q : l.getD (j + 1) 0 < l.getD j 0
    · rw [if_pos q] at h; have := ih u h; exact ⟨by omega, this.2⟩
    · rw [if_neg q] at h
      obtain rfl : j = u := by omega
      exact ⟨Nat.le_refl _, q⟩
theorem grt_sp {l : List Nat} {u : Nat} (hu : ¬ l.getD (u + 1) 0 < l.getD u 0) : ∀ j, u + 1 ≤ j → u + 1 ≤ grt l u j ∧ grt l u j ≤ j ∧ ¬ l.getD (grt l u j) 0 < l.getD u 0 := by
  intro j
  induction j with
  | zero => intro h; omega
  | succ j ih =>
    intro h
    rw [grt]
    by_cases q : l.getD (j + 1) 0 < l.getD u 0
    · rw [if_pos q]
      by_cases z : u = j
      · subst z; exact absurd q hu
      · have := ih (by omega); exact ⟨this.1, by omega, this.2.2⟩
    · rw [if_neg q]; exact ⟨h, Nat.le_refl _, q⟩
theorem nxP_some {n : Nat} {l l' : List Nat} (e : nxP n l = some l') : ∃ u, pvt l (n - 1) = u + 1 ∧ l' = rvs n (swp l u (grt l u (n - 1))) (u + 1) (n - 1) := by
  unfold nxP at e
  cases q : pvt l (n - 1) with
  | zero => rw [q] at e; exact absurd e (by simp)
  | succ u => rw [q] at e; exact ⟨u, rfl, (Option.some.inj e).symm⟩
theorem nxP_P {n : Nat} {l l' : List Nat} (h : IsP n l) (e : nxP n l = some l') : IsP n l' ∧ LtP l l' := by
  obtain ⟨u, e1, rfl⟩ := nxP_some e
  obtain ⟨a1, a2⟩ := pvt_sp _ _ e1
  obtain ⟨b1, b2, b3⟩ := grt_sp a2 (n - 1) a1
  obtain ⟨c1, c2⟩ := rvs_P n (swp l u (grt l u (n - 1))) (u + 1) (n - 1) (IsP_swp h (by omega) (by omega)) (by omega)
  have hl := h.1.1
  refine ⟨c1, u, fun i hi => ?_, ?_⟩
  · rw [c2 i (by omega), swp_get (by omega) (by omega), if_neg (by omega), if_neg (by omega)]
  · rw [c2 u (by omega), swp_get (by omega) (by omega), if_neg (by omega), if_pos rfl]
    have := h.2 u (grt l u (n - 1)) (by omega) (by omega)
    by_cases z : l.getD u 0 = l.getD (grt l u (n - 1)) 0
    · have := this z; omega
    · omega
theorem IsP_id {n : Nat} (hn : 1 ≤ n) : IsP n (List.range n) := by
  refine ⟨id_VL hn, fun i j hi hj q => ?_⟩
  simpa [List.getD_eq_getElem?_getD, List.getElem?_range, hi, hj] using q
/-- where an element stands in a line -/
def iv : List Nat → Nat → Nat
  | [], _ => 0
  | x :: l, e => if x = e then 0 else iv l e + 1
theorem iv_mem {e : Nat} : ∀ l : List Nat, e ∈ l → iv l e < l.length ∧ l.getD (iv l e) 0 = e := by
  intro l
  induction l with
  | nil => intro h; exact absurd h (by simp)
  | cons x l ih =>
    intro h
    rw [iv]
    by_cases q : x = e
    · rw [if_pos q]; exact ⟨by simp, q⟩
    · rw [if_neg q]
      rcases List.mem_cons.mp h with w | w
      · exact absurd w.symm q
      · have := ih w
        exact ⟨by rw [List.length_cons]; omega, by rw [List.getD_cons_succ]; exact this.2⟩
theorem IsP_nodup {n : Nat} {p : List Nat} (h : IsP n p) : p.Nodup := by
  rw [List.Nodup, List.pairwise_iff_getElem]
  intro i j hi hj hij q
  have hl := h.1.1
  have := h.2 i j (by omega) (by omega) (by rw [List.getD_eq_getElem?_getD, List.getElem?_eq_getElem hi, List.getD_eq_getElem?_getD, List.getElem?_eq_getElem hj, Option.getD_some, Option.getD_some]; exact q)
  omega
theorem mem_gd {l : List Nat} {i : Nat} (hi : i < l.length) : l.getD i 0 ∈ l := by
  rw [List.getD_eq_getElem?_getD, List.getElem?_eq_getElem hi]
  exact List.getElem_mem hi
theorem gd_mem {l : List Nat} {e : Nat} (h : e ∈ l) : ∃ i, i < l.length ∧ l.getD i 0 = e := ⟨_, (iv_mem l h).1, (iv_mem l h).2⟩
theorem IsP_of {n : Nat} {p : List Nat} (hl : p.length = n) (hv : ∀ v ∈ p, v < n) (hd : p.Nodup) : IsP n p := by
  refine ⟨⟨hl, fun i hi => hv _ (mem_gd (by omega))⟩, fun i j hi hj q => ?_⟩
  rw [List.Nodup, List.pairwise_iff_getElem] at hd
  rw [List.getD_eq_getElem?_getD, List.getElem?_eq_getElem (by omega), List.getD_eq_getElem?_getD, List.getElem?_eq_getElem (by omega), Option.getD_some, Option.getD_some] at q
  by_cases a : i < j
  · exact absurd q (hd i j (by omega) (by omega) a)
  · by_cases b : j < i
    · exact absurd q.symm (hd j i (by omega) (by omega) b)
    · omega
theorem IsP_mem {n : Nat} {p : List Nat} (hn : n ≤ 7) (h : IsP n p) {v : Nat} (hv : v < n) : v ∈ p := by
  have h7 : ∀ x ∈ p, x < n := fun x hx => by
    obtain ⟨i, hi, e⟩ := gd_mem hx
    rw [← e]; exact h.1.2 i (by have := h.1.1; omega)
  have e1 := bc_nodup p [] (by rw [List.nil_append]; exact IsP_nodup h) (fun x hx => by have := h7 x hx; omega)
  rw [List.nil_append, h.1.1] at e1
  have e2 : bc (usB []) 7 = 0 := by rw [us_nil]; decide
  have u1 : usB p < 2 ^ n := by
    refine Nat.lt_pow_two_of_testBit _ fun i hi => ?_
    cases z : (usB p).testBit i with
    | false => rfl
    | true =>
      have := h7 i (us_bit.mp z).2
      omega
  have e3 := bc_all n (by omega) (usB p) u1 (by omega)
  have : (usB p).testBit v = true := by rw [e3, Nat.testBit_two_pow_sub_one]; exact decide_eq_true hv
  exact (us_bit.mp this).2
theorem iv_lt {n : Nat} {p : List Nat} (hn : n ≤ 7) (h : IsP n p) {v : Nat} (hv : v < n) : iv p v < n ∧ p.getD (iv p v) 0 = v := by
  have := iv_mem p (IsP_mem hn h hv)
  exact ⟨by rw [← h.1.1]; exact this.1, this.2⟩
theorem iv_get {n : Nat} {p : List Nat} (hn : n ≤ 7) (h : IsP n p) {i : Nat} (hi : i < n) : iv p (p.getD i 0) = i := by
  have := iv_lt hn h (h.1.2 i hi)
  exact h.2 _ _ this.1 hi this.2
theorem CM_inj {n : Nat} : ∀ (k : Nat) (l s : List Nat), s.length = k → (∀ v ∈ s, v < n) → (l ++ s).Nodup → l ++ s ∈ CM (fun _ => true) (skp true false n) n k l := by
  intro k
  induction k with
  | zero =>
    intro l s hs _ _
    rw [List.length_eq_zero_iff.mp hs, List.append_nil]; exact List.mem_singleton.mpr rfl
  | succ k ih =>
    intro l s hs hv hd
    cases s with
    | nil => exact absurd hs (by simp)
    | cons v s =>
      have e : l ++ v :: s = (l ++ [v]) ++ s := by simp
      rw [CM_s, mem_flF]
      have hvl : v ∉ l := fun hm => by
        have := (List.nodup_append.mp hd).2.2 v hm v (by simp)
        exact this rfl
      refine ⟨v, Nat.zero_le _, by have := hv v (by simp); omega, ?_⟩
      have : skp true false n k l v = false := by unfold skp; simp [hvl]
      rw [if_neg (by rw [this]; decide), if_pos rfl, e]
      exact ih (l ++ [v]) s (by simpa using hs) (fun x hx => hv x (by simp [hx])) (by rw [← e]; exact hd)
theorem PL_all {n : Nat} (hn : 1 ≤ n ∧ n ≤ 7) : (PL n).Nodup ∧ (∀ p, p ∈ PL n ↔ IsP n p) ∧ (PL n).length = fct n ∧ sqE (nxP n) 5040 (List.range n) = true := by
  obtain ⟨a1, a2⟩ := sq_up (Pr := IsP n) (fun l l' h e => nxP_P h e) 5040 (List.range n) (IsP_id hn.1)
  obtain ⟨b1, b2⟩ := sqL_len 5040 _ _ (PL_end n (by omega) hn.1)
  have c := CM_len n (by omega) hn.1
  have f1 : 1 ≤ fct n := by
    have : ∀ m, 1 ≤ fct m := fun m => by
      induction m with
      | zero => decide
      | succ m ih => rw [fct]; exact Nat.mul_pos (by omega) ih
    exact this n
  have inC : ∀ p, IsP n p → p ∈ CM (fun _ => true) (skp true false n) n n [] := fun p hp => by
    have := CM_inj (n := n) n [] p hp.1.1 (fun v hv => by
      obtain ⟨i, hi, e⟩ := gd_mem hv
      rw [← e]; exact hp.1.2 i (by have := hp.1.1; omega)) (by rw [List.nil_append]; exact IsP_nodup hp)
    rwa [List.nil_append] at this
  refine ⟨a1, fun p => ⟨fun h => (a2 p h).1, fun h => ?_⟩, by show (sq (nxP n) 5040 (List.range n)).length = _; omega, b2⟩
  by_cases q : p ∈ PL n
  · exact q
  · have := len_sub (p :: PL n) (CM (fun _ => true) (skp true false n) n n []) (List.nodup_cons.mpr ⟨q, a1⟩) (fun x hx => by
      rcases List.mem_cons.mp hx with w | w
      · rw [w]; exact inC p h
      · exact inC x (a2 x w).1)
    rw [List.length_cons, c] at this
    have e : (PL n).length = fct n - 1 + 1 := b1
    omega
