/-! tables as numbers -/
def dg (B : Nat) : Nat → Nat → List Nat
  | 0, _ => []
  | N + 1, c => (c / B ^ N) :: dg B N (c % B ^ N)
theorem dg_len {B : Nat} : ∀ (N c : Nat), (dg B N c).length = N := by
  intro N
  induction N with
  | zero => intro c; rfl
  | succ N ih => intro c; rw [dg, List.length_cons, ih]
theorem dg_lt {B : Nat} (hB : 1 ≤ B) : ∀ (N c : Nat), c < B ^ N → ∀ x ∈ dg B N c, x < B := by
  intro N
  induction N with
  | zero => intro c _ x hx; exact absurd hx (by simp [dg])
  | succ N ih =>
    intro c hc x hx
    have hp : 0 < B ^ N := Nat.pow_pos hB
    rw [dg] at hx
    rcases List.mem_cons.mp hx with w | w
    · rw [w]; exact Nat.div_lt_of_lt_mul (by rw [← Nat.pow_succ]; exact hc)
    · exact ih _ (Nat.mod_lt _ hp) x w
theorem nm_dg {B : Nat} (hB : 1 ≤ B) : ∀ (N c : Nat), c < B ^ N → nm B (dg B N c) = c := by
  intro N
  induction N with
  | zero => intro c hc; rw [Nat.pow_zero] at hc; rw [dg, nm]; omega
  | succ N ih =>
    intro c hc
    have hp : 0 < B ^ N := Nat.pow_pos hB
    rw [dg, nm, dg_len, ih _ (Nat.mod_lt _ hp), Nat.mul_comm]
    exact Nat.div_add_mod c (B ^ N)
theorem dg_nm {B : Nat} (hB : 1 ≤ B) : ∀ l : List Nat, (∀ x ∈ l, x < B) → dg B l.length (nm B l) = l := by
  intro l hl
  have h1 := nm_lt l hl
  exact (cmp_nm (B := B) (dg B l.length (nm B l)) l (dg_len _ _) (dg_lt hB _ _ h1) hl).2.2 (nm_dg hB _ _ h1)
theorem nm_app {B : Nat} : ∀ (l m : List Nat), nm B (l ++ m) = nm B l * B ^ m.length + nm B m := by
  intro l
  induction l with
  | nil => intro m; rw [List.nil_append, nm, Nat.zero_mul, Nat.zero_add]
  | cons x l ih =>
    intro m
    rw [List.cons_append, nm, nm, ih, List.length_append, Nat.pow_add, Nat.add_mul, Nat.mul_assoc]
    omega
theorem nm_zero {B : Nat} : ∀ m, nm B (List.replicate m 0) = 0 := by
  intro m
  induction m with
  | zero => rfl
  | succ m ih => rw [List.replicate_succ, nm, ih, Nat.zero_mul]
/-- numbers that share their first places -/
theorem nm_pre {B : Nat} (hB : 1 ≤ B) {l m : List Nat} (hl : ∀ x ∈ l, x < B) (hm : ∀ x ∈ m, x < B) {k : Nat} (e1 : l.length = m.length) (hk : k ≤ l.length) (h1 : nm B l ≤ nm B m) (h2 : nm B m < (nm B (l.take k) + 1) * B ^ (l.length - k)) : l.take k = m.take k := by
  have hp : 0 < B ^ (l.length - k) := Nat.pow_pos hB
  have tl : (l.take k).length = k := by rw [List.length_take]; omega
  have tm : (m.take k).length = k := by rw [List.length_take]; omega
  have a1 := nm_app (B := B) (l.take k) (l.drop k)
  have a2 := nm_app (B := B) (m.take k) (m.drop k)
  rw [List.take_append_drop] at a1 a2
  have d1 : (l.drop k).length = l.length - k := List.length_drop
  have d2 : (m.drop k).length = l.length - k := by rw [List.length_drop, e1]
  rw [d1] at a1
  rw [d2] at a2
  have b1 := nm_lt (B := B) (l.drop k) (fun x hx => hl x (List.mem_of_mem_drop hx))
  have b2 := nm_lt (B := B) (m.drop k) (fun x hx => hm x (List.mem_of_mem_drop hx))
  rw [d1] at b1
  rw [d2] at b2
  have c1 : nm B (m.take k) < nm B (l.take k) + 1 := Nat.lt_of_mul_lt_mul_right (a := B ^ (l.length - k)) (by omega)
  have c2 : nm B (l.take k) < nm B (m.take k) + 1 := Nat.lt_of_mul_lt_mul_right (a := B ^ (l.length - k)) (by rw [Nat.succ_mul]; omega)
  exact (cmp_nm (B := B) (l.take k) (m.take k) (by omega) (fun x hx => hl x (List.mem_of_mem_take hx)) (fun x hx => hm x (List.mem_of_mem_take hx))).2.2 (by omega)
section TBN
variable {n : Nat} {ar : List Nat}
theorem spl {n : Nat} {ar : List Nat} : ∀ (m i : Nat), m ≤ ar.length → i < sto n ar m → ∃ o k, o < m ∧ k < pw n (ar.getD o 0) ∧ i = sto n ar o + k := by
  intro m
  induction m with
  | zero => intro i _ h; rw [sto] at h; omega
  | succ m ih =>
    intro i hm h
    rw [sto] at h
    by_cases q : i < sto n ar m
    · obtain ⟨o, k, a, b, c⟩ := ih i (by omega) q
      exact ⟨o, k, by omega, b, c⟩
    · exact ⟨m, i - sto n ar m, by omega, by omega, by omega⟩
/-- the line of the table that a line holds is that line -/
theorem lnL_id {l : List Nat} (hn : 1 ≤ n ∧ n ≤ 7) (h2 : ∀ o, o < ar.length → ar.getD o 0 ≤ 2) (hl : l.length = sto n ar ar.length) (hv : ∀ x ∈ l, x < n) : lnL (tbL n ar l) n ar (List.range n) = l := by
  refine VL_ext (n := sto n ar ar.length) (lnL_len h2) hl fun i hi => ?_
  obtain ⟨o, k, a, b, rfl⟩ := spl ar.length i (Nat.le_refl _) hi
  obtain ⟨x, y, hx, hy, rfl⟩ := ix_surj (h2 o a) hn.1 b
  have hle := rwN_le hn.1 (r := ar.getD o 0)
  rw [lnL_get h2 a hx hy]
  unfold lnv
  rw [gd_range (by omega), gd_range (by omega), vl_tbL, iv_range hn.1 hn.2 (hv _ (mem_gd (by omega)))]
/-- the table of a number -/
def TB (n : Nat) (ar : List Nat) (c : Nat) : Nat → Nat → Int := tbL n ar (dg n (sto n ar ar.length) c)
def act (n : Nat) (ar : List Nat) (x : List Nat) (c : Nat) : Nat := wT (TB n ar c) n ar x
theorem TB_WF (hn : 1 ≤ n ∧ n ≤ 7) (hl : ar.length ≤ 4) (h2 : ∀ o, o < ar.length → ar.getD o 0 ≤ 2) {c : Nat} (hc : c < n ^ sto n ar ar.length) : WF n ar (TB n ar c) := WF_tbL hn hl h2 (dg_lt hn.1 _ _ hc)
theorem act_id (hn : 1 ≤ n ∧ n ≤ 7) (hl : ar.length ≤ 4) (h2 : ∀ o, o < ar.length → ar.getD o 0 ≤ 2) {c : Nat} (hc : c < n ^ sto n ar ar.length) : act n ar (List.range n) c = c := by
  unfold act wT TB
  rw [lnL_id hn h2 (dg_len _ _) (dg_lt hn.1 _ _ hc), nm_dg hn.1 _ _ hc]
theorem act_lt (hn : 1 ≤ n ∧ n ≤ 7) (hl : ar.length ≤ 4) (h2 : ∀ o, o < ar.length → ar.getD o 0 ≤ 2) {c : Nat} {x : List Nat} (hc : c < n ^ sto n ar ar.length) (hx : IsP n x) : act n ar x c < n ^ sto n ar ar.length := by
  have := nm_lt (B := n) _ (lnL_lt (TB_WF hn hl h2 hc) hx)
  rwa [lnL_len h2] at this
theorem TB_act (hn : 1 ≤ n ∧ n ≤ 7) (hl : ar.length ≤ 4) (h2 : ∀ o, o < ar.length → ar.getD o 0 ≤ 2) {c : Nat} {x : List Nat} (hc : c < n ^ sto n ar ar.length) (hx : IsP n x) : TB n ar (act n ar x c) = tbL n ar (lnL (TB n ar c) n ar x) := by
  unfold act wT
  have := dg_nm (B := n) hn.1 _ (lnL_lt (TB_WF hn hl h2 hc) hx)
  rw [lnL_len h2] at this
  unfold TB
  rw [show dg n (sto n ar ar.length) (nm n (lnL (tbL n ar (dg n (sto n ar ar.length) c)) n ar x)) = lnL (tbL n ar (dg n (sto n ar ar.length) c)) n ar x from this]
theorem act_act (hn : 1 ≤ n ∧ n ≤ 7) (hl : ar.length ≤ 4) (h2 : ∀ o, o < ar.length → ar.getD o 0 ≤ 2) {c : Nat} {x y : List Nat} (hc : c < n ^ sto n ar ar.length) (hx : IsP n x) (hy : IsP n y) : act n ar y (act n ar x c) = act n ar (cmpP x y) c := by
  have e : act n ar y (act n ar x c) = wT (TB n ar (act n ar x c)) n ar y := rfl
  rw [e, TB_act hn hl h2 hc hx]
  unfold wT
  rw [lnL_cmp (TB_WF hn hl h2 hc) hx hy]
  rfl
end TBN
