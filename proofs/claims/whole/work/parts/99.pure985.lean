/-! forms: how many models a form stands for -/
def stb (n : Nat) (ar : List Nat) (c : Nat) : Nat := (PL n).countP (fun x => decide (act n ar x c = c))
def fmB (n : Nat) (ar : List Nat) (c : Nat) : Bool := (PL n).all (fun x => decide (c ≤ act n ar x c))
def obB (n : Nat) (ar : List Nat) (f c : Nat) : Bool := (PL n).any (fun x => decide (act n ar x f = c))
theorem sum_ind {M c : Nat} : ∀ v, v ≤ c → c < v + M → sumF (fun k => if c = k then 1 else 0) M v = 1 := by
  induction M with
  | zero => intro v a b; omega
  | succ M ih =>
    intro v a b
    rw [sumF_s]
    by_cases q : c = v
    · rw [if_pos q, (sumF_one M (v + 1)).2 (by omega)]
    · rw [if_neg q, ih (v + 1) (by omega) (by omega)]
theorem len_split {M : Nat} {φ : List Nat → Nat} : ∀ l : List (List Nat), (∀ x ∈ l, φ x < M) → l.length = sumF (fun c => l.countP (fun x => decide (φ x = c))) M 0 := by
  intro l
  induction l with
  | nil => intro _; exact (sumF_zero M 0).symm
  | cons a l ih =>
    intro h
    have e : sumF (fun c => (a :: l).countP (fun x => decide (φ x = c))) M 0 = sumF (fun c => l.countP (fun x => decide (φ x = c)) + (if φ a = c then 1 else 0)) M 0 := sumF_congr M 0 (fun c _ _ => by
      rw [List.countP_cons]
      by_cases q : φ a = c
      · simp [q]
      · simp [q])
    rw [e, sumF_add, ← ih (fun x hx => h x (List.mem_cons_of_mem _ hx)), sum_ind 0 (Nat.zero_le _) (by have := h a (List.mem_cons_self ..); omega), List.length_cons]
theorem sum_single {M f0 : Nat} {P : Nat → Bool} (h0 : f0 < M) (hP : P f0 = true) (hu : ∀ f, f < M → P f = true → f = f0) : sumF (fun f => if P f = true then 1 else 0) M 0 = 1 := by
  rw [sumF_congr (g := fun k => if f0 = k then 1 else 0) M 0 (fun k _ hk => ?_)]
  · exact sum_ind 0 (Nat.zero_le _) (by omega)
  · by_cases q : P k = true
    · rw [if_pos q, if_pos (hu k (by omega) q).symm]
    · rw [if_neg q, if_neg (fun z => q (by rw [← z]; exact hP))]
section OR
variable {n : Nat} {ar : List Nat}
theorem cmp_self {q : List Nat} (hn : n ≤ 7) (hq : IsP n q) : cmpP q (invL n q) = List.range n := by
  refine VL_ext (n := n) (by simp [cmpP, invL]) List.length_range fun i hi => ?_
  rw [cmp_get (by simp [invL]) hi, inv_get hi, (iv_lt hn hq hi).2, gd_range hi]
theorem fmB_iff (hn : 1 ≤ n ∧ n ≤ 7) {c : Nat} : fmB n ar c = true ↔ ∀ x, IsP n x → c ≤ act n ar x c := by
  unfold fmB
  rw [List.all_eq_true]
  exact ⟨fun h x hx => of_decide_eq_true (h x (((PL_all hn).2.1 x).mpr hx)), fun h x hx => decide_eq_true (h x (((PL_all hn).2.1 x).mp hx))⟩
theorem obB_iff (hn : 1 ≤ n ∧ n ≤ 7) {f c : Nat} : obB n ar f c = true ↔ ∃ x, IsP n x ∧ act n ar x f = c := by
  unfold obB
  rw [List.any_eq_true]
  exact ⟨fun ⟨x, hx, e⟩ => ⟨x, ((PL_all hn).2.1 x).mp hx, of_decide_eq_true e⟩, fun ⟨x, hx, e⟩ => ⟨x, ((PL_all hn).2.1 x).mpr hx, decide_eq_true e⟩⟩
theorem act_back (hn : 1 ≤ n ∧ n ≤ 7) (hl : ar.length ≤ 4) (h2 : ∀ o, o < ar.length → ar.getD o 0 ≤ 2) {f : Nat} {q : List Nat} (hf : f < n ^ sto n ar ar.length) (hq : IsP n q) : act n ar (invL n q) (act n ar q f) = f := by
  rw [act_act hn hl h2 hf hq (IsP_inv hn.2 hq), cmp_self hn.2 hq, act_id hn hl h2 hf]
theorem fib2 (hn : 1 ≤ n ∧ n ≤ 7) (hl : ar.length ≤ 4) (h2 : ∀ o, o < ar.length → ar.getD o 0 ≤ 2) {f : Nat} {q : List Nat} (hf : f < n ^ sto n ar ar.length) (hq : IsP n q) : (PL n).countP (fun x => decide (act n ar x f = act n ar q f)) = stb n ar f := by
  obtain ⟨p1, p2, p3, p4⟩ := PL_all hn
  have hi := IsP_inv hn.2 hq
  unfold stb
  rw [List.countP_eq_length_filter, List.countP_eq_length_filter]
  refine Nat.le_antisymm (len_rel (R := fun x y => IsP n x ∧ y = cmpP x (invL n q)) (fun x x' y a b => ?_) _ _ (nodup_filter _ p1) fun x hx => ?_) (len_rel (R := fun x y => IsP n x ∧ y = cmpP x q) (fun x x' y a b => ?_) _ _ (nodup_filter _ p1) fun x hx => ?_)
  · rw [← cmp_inv2 hn.2 a.1 hq, ← cmp_inv2 hn.2 b.1 hq, ← a.2, ← b.2]
  · obtain ⟨a, b⟩ := List.mem_filter.mp hx
    have a' := (p2 x).mp a
    have b' := of_decide_eq_true b
    refine ⟨cmpP x (invL n q), List.mem_filter.mpr ⟨(p2 _).mpr (IsP_cmp a' hi), decide_eq_true ?_⟩, a', rfl⟩
    rw [← act_act hn hl h2 hf a' hi, b', act_back hn hl h2 hf hq]
  · rw [← cmp_inv hn.2 a.1 hq, ← cmp_inv hn.2 b.1 hq, ← a.2, ← b.2]
  · obtain ⟨a, b⟩ := List.mem_filter.mp hx
    have a' := (p2 x).mp a
    have b' := of_decide_eq_true b
    refine ⟨cmpP x q, List.mem_filter.mpr ⟨(p2 _).mpr (IsP_cmp a' hq), decide_eq_true ?_⟩, a', rfl⟩
    rw [← act_act hn hl h2 hf a' hq, b']
theorem stb_pos (hn : 1 ≤ n ∧ n ≤ 7) (hl : ar.length ≤ 4) (h2 : ∀ o, o < ar.length → ar.getD o 0 ≤ 2) {f : Nat} (hf : f < n ^ sto n ar ar.length) : 0 < stb n ar f := by
  unfold stb
  rw [List.countP_pos_iff]
  exact ⟨List.range n, ((PL_all hn).2.1 _).mpr (IsP_id hn.1), decide_eq_true (act_id hn hl h2 hf)⟩
/-- orbit and stabilizer -/
theorem orb_stb (hn : 1 ≤ n ∧ n ≤ 7) (hl : ar.length ≤ 4) (h2 : ∀ o, o < ar.length → ar.getD o 0 ≤ 2) {f : Nat} (hf : f < n ^ sto n ar ar.length) : fct n / stb n ar f = sumF (fun c => if obB n ar f c = true then 1 else 0) (n ^ sto n ar ar.length) 0 := by
  obtain ⟨p1, p2, p3, p4⟩ := PL_all hn
  have e1 := len_split (M := n ^ sto n ar ar.length) (φ := fun x => act n ar x f) (PL n) (fun x hx => act_lt hn hl h2 hf ((p2 x).mp hx))
  have e2 : sumF (fun c => (PL n).countP (fun x => decide (act n ar x f = c))) (n ^ sto n ar ar.length) 0 = stb n ar f * sumF (fun c => if obB n ar f c = true then 1 else 0) (n ^ sto n ar ar.length) 0 := by
    have mulS : ∀ (k m v : Nat) (g : Nat → Nat), sumF (fun c => k * g c) m v = k * sumF g m v := by
      intro k m
      induction m with
      | zero => intro v g; rfl
      | succ m ih => intro v g; rw [sumF_s, sumF_s, ih, Nat.mul_add]
    rw [← mulS]
    refine sumF_congr _ _ fun c _ _ => ?_
    by_cases q : obB n ar f c = true
    · rw [if_pos q, Nat.mul_one]
      obtain ⟨x, hx, rfl⟩ := (obB_iff hn).mp q
      exact fib2 hn hl h2 hf hx
    · rw [if_neg q, Nat.mul_zero]
      rw [List.countP_eq_zero]
      intro x hx w
      exact q ((obB_iff hn).mpr ⟨x, (p2 x).mp hx, of_decide_eq_true w⟩)
  rw [p3, e2] at e1
  rw [e1]
  exact Nat.mul_div_cancel_left _ (stb_pos hn hl h2 hf)
theorem least_ex (hn : 1 ≤ n ∧ n ≤ 7) {c : Nat} : ∃ x0, IsP n x0 ∧ ∀ x, IsP n x → act n ar x0 c ≤ act n ar x c := by
  have go : ∀ k, (∃ x, IsP n x ∧ act n ar x c ≤ k) → ∃ x0, IsP n x0 ∧ ∀ x, IsP n x → act n ar x0 c ≤ act n ar x c := by
    intro k
    induction k with
    | zero => rintro ⟨x, hx, h⟩; exact ⟨x, hx, fun y _ => by omega⟩
    | succ k ih =>
      rintro ⟨x, hx, h⟩
      by_cases q : ∃ y, IsP n y ∧ act n ar y c ≤ k
      · exact ih q
      · refine ⟨x, hx, fun y hy => ?_⟩
        by_cases w : act n ar y c ≤ k
        · exact absurd ⟨y, hy, w⟩ q
        · omega
  exact go _ ⟨List.range n, IsP_id hn.1, Nat.le_refl _⟩
/-- the models are counted by their forms -/
theorem all_count (hn : 1 ≤ n ∧ n ≤ 7) (hl : ar.length ≤ 4) (h2 : ∀ o, o < ar.length → ar.getD o 0 ≤ 2) {md : Nat → Bool} (hm : ∀ c x, c < n ^ sto n ar ar.length → IsP n x → md c = true → md (act n ar x c) = true) : sumF (fun f => if (fmB n ar f && md f) = true then fct n / stb n ar f else 0) (n ^ sto n ar ar.length) 0 = sumF (fun c => if md c = true then 1 else 0) (n ^ sto n ar ar.length) 0 := by
  have e1 : sumF (fun f => if (fmB n ar f && md f) = true then fct n / stb n ar f else 0) (n ^ sto n ar ar.length) 0 = sumF (fun f => sumF (fun c => if (fmB n ar f && md f && obB n ar f c) = true then 1 else 0) (n ^ sto n ar ar.length) 0) (n ^ sto n ar ar.length) 0 := by
    refine sumF_congr _ _ fun f _ hf => ?_
    by_cases q : (fmB n ar f && md f) = true
    · rw [if_pos q, orb_stb hn hl h2 (by omega)]
      refine sumF_congr _ _ fun c _ _ => ?_
      rw [q, Bool.true_and]
    · rw [if_neg q]
      rw [sumF_congr (g := fun _ => 0) _ _ (fun c _ _ => ?_), sumF_zero]
      rw [if_neg (fun w => q (Bool.and_eq_true_iff.mp w).1)]
  rw [e1, sumF_comm]
  refine sumF_congr _ _ fun c _ hc => ?_
  have hc' : c < n ^ sto n ar ar.length := by omega
  by_cases q : md c = true
  · rw [if_pos q]
    obtain ⟨x0, hx0, hmin⟩ := least_ex (ar := ar) hn (c := c)
    have f0 := act_lt hn hl h2 hc' hx0
    refine sum_single f0 ?_ fun f hf hP => ?_
    · rw [Bool.and_eq_true_iff, Bool.and_eq_true_iff]
      refine ⟨⟨(fmB_iff hn).mpr fun y hy => ?_, hm c x0 hc' hx0 q⟩, (obB_iff hn).mpr ⟨invL n x0, IsP_inv hn.2 hx0, act_back hn hl h2 hc' hx0⟩⟩
      rw [act_act hn hl h2 hc' hx0 hy]
      exact hmin _ (IsP_cmp hx0 hy)
    · rw [Bool.and_eq_true_iff, Bool.and_eq_true_iff] at hP
      obtain ⟨⟨a, b⟩, d⟩ := hP
      obtain ⟨x, hx, e⟩ := (obB_iff hn).mp d
      have k1 : f ≤ act n ar x0 c := by
        rw [← e, act_act hn hl h2 hf hx hx0]
        exact (fmB_iff hn).mp a _ (IsP_cmp hx hx0)
      have k2 : act n ar x0 c ≤ f := by
        have := hmin (invL n x) (IsP_inv hn.2 hx)
        rw [← e] at this ⊢
        rwa [act_back hn hl h2 hf hx] at this
      omega
  · rw [if_neg q]
    rw [sumF_congr (g := fun _ => 0) _ _ (fun f _ hf => ?_), sumF_zero]
    refine if_neg fun w => q ?_
    rw [Bool.and_eq_true_iff, Bool.and_eq_true_iff] at w
    obtain ⟨⟨a, b⟩, d⟩ := w
    obtain ⟨x, hx, e⟩ := (obB_iff hn).mp d
    rw [← e]
    exact hm f x (by omega) hx b
end OR
