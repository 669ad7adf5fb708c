/-! the class leaps over tables that cannot be forms that keep the laws -/
theorem sumF_app {f : Nat → Nat} : ∀ (a b v : Nat), sumF f (a + b) v = sumF f a v + sumF f b (v + a)
  | 0, b, v => by rw [Nat.zero_add, Nat.add_zero]; exact (Nat.zero_add _).symm
  | a + 1, b, v => by rw [show a + 1 + b = (a + b) + 1 by omega, sumF_s, sumF_s, sumF_app a b (v + 1), show v + 1 + a = v + (a + 1) by omega, Nat.add_assoc]
theorem sum_skip {f : Nat → Nat} {a b : Nat} (hab : a ≤ b) (hz : ∀ j, a ≤ j → j < b → f j = 0) : sumF f b 0 = sumF f a 0 := by
  obtain ⟨d, rfl⟩ : ∃ d, b = a + d := ⟨b - a, by omega⟩
  rw [sumF_app, Nat.zero_add, sumF_congr (g := fun _ => 0) d a (fun j h1 h2 => hz j h1 h2), sumF_zero, Nat.add_zero]
theorem sum_next {f : Nat → Nat} {a : Nat} : sumF f (a + 1) 0 = sumF f a 0 + f a := by rw [sumF_app a 1 0, Nat.zero_add]; rfl
theorem sum_mono {f : Nat → Nat} {a b : Nat} (hab : a ≤ b) : sumF f a 0 ≤ sumF f b 0 := by
  obtain ⟨d, rfl⟩ : ∃ d, b = a + d := ⟨b - a, by omega⟩
  rw [sumF_app]; omega
theorem jmp_gt {n N c s : Nat} (hn : 1 ≤ n) (hc : c < n ^ N) : c < jmp n N c s := by
  have e := nm_dg hn N c hc
  have l := dg_lt hn N c hc
  have t : nm n (dg n N c) = nm n ((dg n N c).take s) * n ^ ((dg n N c).drop s).length + nm n ((dg n N c).drop s) := by rw [← nm_app, List.take_append_drop]
  have u := nm_lt ((dg n N c).drop s) (fun x hx => l x (List.mem_of_mem_drop hx))
  have w : ((dg n N c).drop s).length = N - s := by rw [List.length_drop, dg_len]
  rw [w] at t u
  unfold jmp
  rw [Nat.add_mul, Nat.one_mul]
  omega
theorem jmp_all {n N c : Nat} (hn : 1 ≤ n) (hc : c < n ^ N) : jmp n N c N = c + 1 := by
  unfold jmp
  rw [List.take_of_length_le (by rw [dg_len]; exact Nat.le_refl _), nm_dg hn N c hc, Nat.sub_self, Nat.pow_zero, Nat.mul_one]
section LP
variable {F n i nl ns T L : Nat} {ar : List Nat} {sg mn se lf rt lw : Nat → Nat}
theorem TB_pre (hn : 1 ≤ n ∧ n ≤ 7) {c c' s : Nat} (hc : c < n ^ sto n ar ar.length) (hc' : c' < n ^ sto n ar ar.length) (h1 : c ≤ c') (hj : c' < jmp n (sto n ar ar.length) c s) (hs : s ≤ sto n ar ar.length) : AG n ar (TB n ar c) (TB n ar c') ((s : Int) - 1) := by
  have p := nm_pre (B := n) hn.1 (dg_lt hn.1 _ c hc) (dg_lt hn.1 _ c' hc') (k := s) (by rw [dg_len, dg_len]) (by rw [dg_len]; exact hs) (by rw [nm_dg hn.1 _ _ hc, nm_dg hn.1 _ _ hc']; exact h1) (by rw [nm_dg hn.1 _ _ hc', dg_len]; exact hj)
  intro o k ho hk hR
  have q : sto n ar o + k < s := by omega
  have e1 : ∀ l : List Nat, l.getD (sto n ar o + k) 0 = (l.take s).getD (sto n ar o + k) 0 := fun l => by rw [List.getD_eq_getElem?_getD, List.getD_eq_getElem?_getD, List.getElem?_take, if_pos q]
  unfold TB tbL
  rw [e1 (dg n (sto n ar ar.length) c'), e1 (dg n (sto n ar ar.length) c), p]
theorem mdB_iff (hn : 1 ≤ n ∧ n ≤ 7) (hl : ar.length ≤ 4) (h2 : ∀ o, o < ar.length → ar.getD o 0 ≤ 2) (hP : LLP nl ns T sg mn se lf rt lw) {c : Nat} (hc : c < n ^ sto n ar ar.length) : mdB n ar nl sg mn se lf rt lw c = true ↔ HLd n nl sg mn se lf rt lw (vl (TB n ar c) n ar) := by
  rw [← fb_iff (TB_WF hn hl h2 hc) hP]
  unfold mdB
  exact Option.isNone_iff_eq_none
theorem mdB_act (hn : 1 ≤ n ∧ n ≤ 7) (hl : ar.length ≤ 4) (h2 : ∀ o, o < ar.length → ar.getD o 0 ≤ 2) (hP : LLP nl ns T sg mn se lf rt lw) (hf : fitP ar sg mn T) : ∀ c x, c < n ^ sto n ar ar.length → IsP n x → mdB n ar nl sg mn se lf rt lw c = true → mdB n ar nl sg mn se lf rt lw (act n ar x c) = true := by
  intro c x hc hx hm
  rw [mdB_iff hn hl h2 hP (act_lt hn hl h2 hc hx), TB_act hn hl h2 hc hx]
  exact HL_img (TB_WF hn hl h2 hc) hx hP hf ((mdB_iff hn hl h2 hP hc).mp hm)
/-- what the class adds up -/
def wgB (n : Nat) (ar : List Nat) (nl : Nat) (sg mn se lf rt lw : Nat → Nat) (f : Nat) : Nat := if (fmB n ar f && mdB n ar nl sg mn se lf rt lw f) = true then fct n / stb n ar f else 0
theorem wgB_sum (hn : 1 ≤ n ∧ n ≤ 7) (hl : ar.length ≤ 4) (h2 : ∀ o, o < ar.length → ar.getD o 0 ≤ 2) (hP : LLP nl ns T sg mn se lf rt lw) (hf : fitP ar sg mn T) : sumF (wgB n ar nl sg mn se lf rt lw) (n ^ sto n ar ar.length) 0 = sumF (fun c => b1 (cnB n ar nl sg mn se lf rt lw false c)) (n ^ sto n ar ar.length) 0 := by
  have := all_count hn hl h2 (md := mdB n ar nl sg mn se lf rt lw) (mdB_act hn hl h2 hP hf)
  refine this.trans (sumF_congr _ _ fun c _ _ => ?_)
  unfold b1 cnB
  rw [Bool.not_false, Bool.true_or, Bool.and_true]
theorem b1_le {b : Bool} : b1 b ≤ 1 := by unfold b1; split <;> omega
theorem cn_sum_le {u : Bool} (a : Nat) : sumF (fun c => b1 (cnB n ar nl sg mn se lf rt lw u c)) a 0 ≤ a := by
  have := sumF_le (f := fun c => b1 (cnB n ar nl sg mn se lf rt lw u c)) (g := fun _ => 1) a 0 (fun _ _ _ => b1_le)
  rw [sumF_const] at this
  omega
theorem skip0 {f : Nat} (hq : cnB n ar nl sg mn se lf rt lw true f = false) : b1 (cnB n ar nl sg mn se lf rt lw true f) = 0 ∧ wgB n ar nl sg mn se lf rt lw f = 0 := by
  refine ⟨by rw [hq]; rfl, ?_⟩
  unfold cnB at hq
  rw [Bool.not_true, Bool.false_or, Bool.and_comm] at hq
  unfold wgB
  rw [hq]; rfl
theorem zrn_ok (hn : 1 ≤ n ∧ n ≤ 7) {f : Int → RO} : zrn (n : Int) f = f (fct n : Int) := by
  unfold zrn
  rw [if_pos ⟨by omega, by omega⟩, Int.toNat_natCast]
  have : ∀ k, k < 8 → zNum k = (fct k : Int) := by decide
  rw [this n (by omega)]
theorem fct_le (hn : n ≤ 7) : fct n ≤ 5040 := by
  have : ∀ k, k < 8 → fct k ≤ 5040 := by decide
  exact this n (by omega)
end LP
