/-! how many numberings leave a table as it is -/
theorem flF_nodup {f : Nat → List (List Nat)} : ∀ (m v : Nat), (∀ j, v ≤ j → j < v + m → (f j).Nodup) → (∀ i j x, v ≤ i → i < j → j < v + m → x ∈ f i → x ∈ f j → False) → (flF f m v).Nodup := by
  intro m
  induction m with
  | zero => intro v _ _; exact List.nodup_nil
  | succ m ih =>
    intro v h1 h2
    rw [flF_s, List.nodup_append]
    refine ⟨h1 v (Nat.le_refl _) (by omega), ih (v + 1) (fun j a b => h1 j (by omega) (by omega)) (fun i j x a b c => h2 i j x (by omega) b (by omega)), fun a ha b hb e => ?_⟩
    obtain ⟨j, j1, j2, j3⟩ := (mem_flF _ _).mp hb
    exact h2 v j b (Nat.le_refl _) (by omega) (by omega) (by rw [← e]; exact ha) j3
section CT
variable {n : Nat} {ar : List Nat}
theorem RM_nodup {P W : List Nat → Bool} {n2 : Nat} : ∀ (k : Nat) (l : List Nat), (RM P W n2 k l).Nodup := by
  intro k
  induction k with
  | zero => intro l; rw [RM]; split <;> simp
  | succ k ih =>
    intro l
    rw [RM_s]
    have hd : ∀ v x, x ∈ (if P (l ++ [v]) = true then RM P W n2 k (l ++ [v]) else []) → x.getD l.length 0 = v := fun v x hx => by
      by_cases q : P (l ++ [v]) = true
      · rw [if_pos q] at hx
        obtain ⟨-, s, e, -, -⟩ := RM_ext k (l ++ [v]) x hx
        rw [e, gd_left (by simp)]
        have := gd_right (l := l) (m := [v]) (i := 0)
        rw [Nat.add_zero] at this
        rw [this]; rfl
      · rw [if_neg q] at hx; exact absurd hx (by simp)
    refine flF_nodup _ _ (fun j _ _ => ?_) (fun i j x _ hij _ a b => ?_)
    · by_cases q : P (l ++ [j]) = true
      · rw [if_pos q]; exact ih _
      · rw [if_neg q]; exact List.nodup_nil
    · have := hd i x a
      have := hd j x b
      omega
theorem RM_mem {P W : List Nat → Bool} {n2 N : Nat} (hP : ∀ l v, l.length < N → P (l ++ [v]) = true → P l = true) : ∀ (k : Nat) (l s : List Nat), l.length + k = N → s.length = k → (∀ v ∈ s, v < n2) → W (l ++ s) = true → P (l ++ s) = true → l ++ s ∈ RM P W n2 k l := by
  intro k
  induction k with
  | zero =>
    intro l s hl hs _ hW _
    have : s = [] := List.length_eq_zero_iff.mp hs
    subst this
    rw [RM, List.append_nil]
    rw [List.append_nil] at hW
    rw [if_pos hW]; exact List.mem_singleton.mpr rfl
  | succ k ih =>
    intro l s hl hs hv hW hPs
    cases s with
    | nil => exact absurd hs (by simp)
    | cons v s =>
      have e : l ++ v :: s = (l ++ [v]) ++ s := by simp
      rw [RM_s, mem_flF]
      have pre : ∀ (t m : List Nat), m.length + t.length ≤ N → P (m ++ t) = true → P m = true := by
        intro t
        induction t with
        | nil => intro m _ h; rwa [List.append_nil] at h
        | cons x t ih2 =>
          intro m hm h
          have e2 : m ++ x :: t = (m ++ [x]) ++ t := by simp
          rw [e2] at h
          have := ih2 (m ++ [x]) (by simp at hm ⊢; omega) h
          exact hP m x (by simp at hm; omega) this
      have hp1 : P (l ++ [v]) = true := pre s (l ++ [v]) (by simp at hs ⊢; omega) (by rw [← e]; exact hPs)
      refine ⟨v, Nat.zero_le _, by have := hv v (by simp); omega, ?_⟩
      rw [if_pos hp1, e]
      exact ih (l ++ [v]) s (by simp; omega) (by simpa using hs) (fun x hx => hv x (by simp [hx])) (by rw [← e]; exact hW) (by rw [← e]; exact hPs)
variable {T tb : Nat → Nat → Int}
/-- a bijection that keeps the table -/
theorem go_line (hw : WF n ar T) {x : List Nat} (hx : IsP n x) : goB T T n n ar x = true ↔ lnL T n ar x = lnL T n ar (List.range n) := by
  have hn := hw.1
  have hid := IsP_id (n := n) hn.1
  have key : (∀ o a b, o < ar.length → a < n → b < n → lnv T n ar x o a b = vl T n ar o a b) ↔ lnL T n ar x = lnL T n ar (List.range n) := by
    constructor
    · intro h
      refine lnL_congr hn.1 fun o a b ho ha hb => ?_
      rw [h o a b ho ha hb]
      unfold lnv
      rw [gd_range ha, gd_range hb, iv_range hn.1 hn.2 (vl_eq hw ho ha hb).2]
    · intro h o a b ho ha hb
      have e : vl (tbL n ar (lnL T n ar x)) n ar o a b = vl (tbL n ar (lnL T n ar (List.range n))) n ar o a b := by rw [h]
      rw [vl_img hn.1 hw.2.2.1 ho ha hb, vl_img hn.1 hw.2.2.1 ho ha hb] at e
      rw [e]
      unfold lnv
      rw [gd_range ha, gd_range hb, iv_range hn.1 hn.2 (vl_eq hw ho ha hb).2]
  rw [← key]
  have hl := hx.1.1
  have cell : ∀ o a b, o < ar.length → a < n → b < n → (lnv T n ar x o a b = vl T n ar o a b ↔ vl T n ar o (x.getD a 0) (x.getD b 0) = x.getD (vl T n ar o a b) 0) := by
    intro o a b ho ha hb
    have v1 := (vl_eq hw ho (hx.1.2 a ha) (hx.1.2 b hb)).2
    have v2 := (vl_eq hw ho ha hb).2
    unfold lnv
    constructor
    · intro e
      rw [← e]; exact (iv_lt hn.2 hx v1).2.symm
    · intro e
      rw [e]; exact iv_get hn.2 hx v2
  have red : ∀ o a b, vl T n ar o (if 0 < ar.getD o 0 then x.getD a 0 else 0) (if 1 < ar.getD o 0 then x.getD b 0 else 0) = vl T n ar o (x.getD a 0) (x.getD b 0) := fun o a b => by
    unfold vl
    rw [ix_same (n := n) (r := ar.getD o 0) (a := x.getD a 0) (b := x.getD b 0) (fun h => by rw [if_pos (by omega)]) (fun h => by rw [if_pos (by omega)])]
  constructor
  · intro h o a b ho ha hb
    obtain ⟨a', b', c1, c2, c3, c4⟩ := ix_nrm hn.1 (hw.2.2.1 o ho) ha hb
    have hle := rwN_le hn.1 (r := ar.getD o 0)
    have e0 : lnv T n ar x o a b = lnv T n ar x o a' b' := by
      unfold lnv vl
      rw [ix_same (n := n) (r := ar.getD o 0) (a := x.getD a 0) (b := x.getD b 0) (a' := x.getD a' 0) (b' := x.getD b' 0) (fun h => by rw [c3 h]) (fun h => by rw [c4 h])]
    have e1 : vl T n ar o a b = vl T n ar o a' b' := by
      unfold vl; rw [ix_same c3 c4]
    rw [e0, e1, cell o a' b' ho (by omega) (by omega)]
    unfold goB at h
    have h1 := alB_iff.mp h o (Nat.zero_le _) (by omega)
    have h2 := alB_iff.mp h1 a' (Nat.zero_le _) (by
      rw [hl]; unfold rwN at c1
      by_cases q : ar.getD o 0 = 0
      · rw [if_pos q] at c1; rw [if_neg (by omega)]; omega
      · rw [if_neg q] at c1; rw [if_pos (by omega)]; omega)
    have h3 := alB_iff.mp h2 b' (Nat.zero_le _) (by
      rw [hl]; unfold clN at c2
      by_cases q : ar.getD o 0 = 2
      · rw [if_pos q] at c2; rw [if_pos (by omega)]; omega
      · rw [if_neg q] at c2
        have := hw.2.2.1 o ho
        rw [if_neg (by omega)]; omega)
    unfold g1B at h3
    have v2 := (vl_eq hw ho (show a' < n by omega) (show b' < n by omega)).2
    rw [red] at h3
    simp only [Bool.or_eq_true, Bool.not_eq_true', decide_eq_false_iff_not, decide_eq_true_eq] at h3
    rcases h3 with z | z
    · omega
    · exact z.symm
  · intro h
    unfold goB
    refine alB_iff.mpr fun o _ ho => alB_iff.mpr fun a _ ha => alB_iff.mpr fun b _ hb => ?_
    have ha' : a < n := by
      rw [hl] at ha
      by_cases q : 0 < ar.getD o 0
      · rw [if_pos q] at ha; omega
      · rw [if_neg q] at ha; omega
    have hb' : b < n := by
      rw [hl] at hb
      by_cases q : 1 < ar.getD o 0
      · rw [if_pos q] at hb; omega
      · rw [if_neg q] at hb; omega
    unfold g1B
    rw [red]
    have := (cell o a b (by omega) ha' hb').mp (h o a b (by omega) ha' hb')
    rw [decide_eq_true this.symm, Bool.or_true]
theorem nodup_filter {p : List Nat → Bool} : ∀ l : List (List Nat), l.Nodup → (l.filter p).Nodup := fun l h => h.sublist List.filter_sublist
/-- the maps of the table to itself are the numberings that leave it -/
theorem turns_len (hw : WF n ar T) : (MP T T n n ar 3).length = (PL n).countP (fun x => decide (lnL T n ar x = lnL T n ar (List.range n))) := by
  have hn := hw.1
  obtain ⟨p1, p2, p3, p4⟩ := PL_all hn
  rw [List.countP_eq_length_filter]
  have mem : ∀ x, x ∈ MP T T n n ar 3 ↔ (IsP n x ∧ goB T T n n ar x = true) := by
    intro x
    constructor
    · intro h
      have h1 := RM_lt h
      obtain ⟨w1, s, w2, w3, w4⟩ := RM_ext n [] x h
      have w5 := (wh_iff (what := 3) (by omega)).mp w1
      have hv : ∀ v ∈ x, v < n := fun v hv => by
        obtain ⟨i, hi, e⟩ := gd_mem hv
        rw [← e]; exact h1.2 i hi
      refine ⟨IsP_of h1.1 hv (w5.1 (.inr rfl)), ?_⟩
      have gg : ∀ (k : Nat) (l x : List Nat), l.length + k = n → goB T T n n ar l = true → x ∈ RM (goB T T n n ar) (whB 3 n) n k l → goB T T n n ar x = true := by
        intro k
        induction k with
        | zero =>
          intro l x _ hg hx
          rw [RM] at hx
          by_cases q : whB 3 n l = true
          · rw [if_pos q] at hx; rw [List.mem_singleton.mp hx]; exact hg
          · rw [if_neg q] at hx; exact absurd hx (by simp)
        | succ k ih =>
          intro l x hl hg hx
          rw [RM_s] at hx
          obtain ⟨v, _, _, hx⟩ := (mem_flF _ _).mp hx
          by_cases q : goB T T n n ar (l ++ [v]) = true
          · rw [if_pos q] at hx
            exact ih (l ++ [v]) x (by simp; omega) q hx
          · rw [if_neg q] at hx; exact absurd hx (by simp)
      exact gg n [] x (by simp) go_nil h
    · rintro ⟨hx, hg⟩
      have hv : ∀ v ∈ x, v < n := fun v hv => by
        obtain ⟨i, hi, e⟩ := gd_mem hv
        rw [← e]; exact hx.1.2 i (by have := hx.1.1; omega)
      have hW : whB 3 n x = true := by
        refine (wh_iff (by omega)).mpr ⟨fun _ => IsP_nodup hx, fun _ => ?_⟩
        refine Nat.eq_of_testBit_eq fun i => ?_
        rw [Nat.testBit_two_pow_sub_one]
        by_cases q : i < n
        · rw [decide_eq_true q]; exact us_bit.mpr ⟨by omega, IsP_mem hn.2 hx q⟩
        · rw [decide_eq_false q]
          cases z : (usB x).testBit i with
          | false => rfl
          | true => exact absurd (hv i (us_bit.mp z).2) q
      have := RM_mem (P := goB T T n n ar) (W := whB 3 n) (n2 := n) (N := n) (fun l v hl h => by
        rw [go_q hw hw hl] at h
        exact (Bool.and_eq_true_iff.mp h).1) n [] x (by simp) hx.1.1 hv (by rw [List.nil_append]; exact hW) (by rw [List.nil_append]; exact hg)
      rwa [List.nil_append] at this
  refine Nat.le_antisymm (len_sub _ _ (RM_nodup n []) fun x hx => ?_) (len_sub _ _ (nodup_filter _ p1) fun x hx => ?_)
  · obtain ⟨a, b⟩ := (mem x).mp hx
    exact List.mem_filter.mpr ⟨(p2 x).mpr a, decide_eq_true ((go_line hw a).mp b)⟩
  · obtain ⟨a, b⟩ := List.mem_filter.mp hx
    have a' := (p2 x).mp a
    exact (mem x).mpr ⟨a', (go_line hw a').mpr (of_decide_eq_true b)⟩
/-- as many numberings lead from a table to its image as leave the image -/
theorem fib_len (hw : WF n ar tb) {q : List Nat} (hq : IsP n q) : (PL n).countP (fun x => decide (lnL (tbL n ar (lnL tb n ar q)) n ar x = lnL (tbL n ar (lnL tb n ar q)) n ar (List.range n))) = (PL n).countP (fun x => decide (lnL tb n ar x = lnL tb n ar q)) := by
  have hn := hw.1
  obtain ⟨p1, p2, p3, p4⟩ := PL_all hn
  have hid := IsP_id (n := n) hn.1
  rw [List.countP_eq_length_filter, List.countP_eq_length_filter]
  have hqi : cmpP q (List.range n) = q := VL_ext (n := n) (by simp [cmpP]) hq.1.1 fun i hi => by rw [cmp_get List.length_range hi, gd_range hi]
  have inv1 : ∀ y, IsP n y → cmpP q (cmpP (invL n q) y) = y := fun y hy => VL_ext (n := n) (by simp [cmpP, hy.1.1]) hy.1.1 fun i hi => by
    have hi' := IsP_inv hn.2 hq
    rw [cmp_get (IsP_cmp hi' hy).1.1 hi, cmp_get hy.1.1 hi, inv_get (hy.1.2 i hi), (iv_lt hn.2 hq (hy.1.2 i hi)).2]
  refine Nat.le_antisymm (len_rel (R := fun x y => IsP n x ∧ y = cmpP q x) (fun x x' y a b => cmp_injL hq a.1.1 b.1.1 (by rw [← a.2, ← b.2])) _ _ (nodup_filter _ p1) fun x hx => ?_) (len_rel (R := fun x y => IsP n x ∧ IsP n y ∧ cmpP q y = x) (fun x x' y a b => by rw [← a.2.2, ← b.2.2]) _ _ (nodup_filter _ p1) fun x hx => ?_)
  · obtain ⟨a, b⟩ := List.mem_filter.mp hx
    have a' := (p2 x).mp a
    have b' := of_decide_eq_true b
    rw [lnL_cmp hw hq a', lnL_cmp hw hq hid, hqi] at b'
    exact ⟨cmpP q x, List.mem_filter.mpr ⟨(p2 _).mpr (IsP_cmp hq a'), decide_eq_true b'⟩, a', rfl⟩
  · obtain ⟨a, b⟩ := List.mem_filter.mp hx
    have a' := (p2 x).mp a
    have b' := of_decide_eq_true b
    have hy : IsP n (cmpP (invL n q) x) := IsP_cmp (IsP_inv hn.2 hq) a'
    refine ⟨cmpP (invL n q) x, List.mem_filter.mpr ⟨(p2 _).mpr hy, decide_eq_true ?_⟩, a', hy, inv1 x a'⟩
    rw [lnL_cmp hw hq hy, lnL_cmp hw hq hid, hqi, inv1 x a', b']
end CT
