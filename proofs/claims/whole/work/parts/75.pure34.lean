/-! an algebra built cell by cell: class (draft, cell 6) and reference (row 8) -/
theorem ars_cod : ∀ (l : List Nat) (m : Nat), l.length ≤ m → (∀ x ∈ l, x ≤ 2) → okA m (cod l) = true ∧ arsOf m (cod l) = l
  | [], m, _, _ => ⟨okA_zero m, ars_zero m⟩
  | r :: l, 0, h, _ => absurd h (by simp)
  | r :: l, m + 1, h, h2 => by
    have hr := h2 r List.mem_cons_self
    obtain ⟨i1, i2⟩ := ars_cod l m (by simpa using h) (fun x hx => h2 x (List.mem_cons_of_mem _ hx))
    have e : cod (r :: l) = (r + 1) + 10 * cod l := rfl
    have hne : cod (r :: l) ≠ 0 := by omega
    have hm : cod (r :: l) % 10 = r + 1 := by omega
    have hq : cod (r :: l) / 10 = cod l := by omega
    rw [okA_s hne, ars_s hne, hm, hq, i1, i2]
    refine ⟨?_, by rw [Nat.add_sub_cancel]⟩
    rw [decide_eq_true (show 1 ≤ r + 1 by omega), decide_eq_true (show r + 1 ≤ 3 by omega)]
    rfl
theorem ix_inj {n r a b a' b' : Nat} (hr : r ≤ 2) (ha : a < rwN n r) (hb : b < clN n r) (ha' : a' < rwN n r) (hb' : b' < clN n r) (e : ix n r a b = ix n r a' b') : a = a' ∧ b = b' := by
  unfold rwN at ha ha'
  unfold clN at hb hb'
  unfold ix at e
  by_cases q0 : r = 0
  · rw [if_pos q0] at ha ha'
    rw [if_neg (by omega)] at hb hb'
    omega
  · rw [if_neg q0] at ha ha'
    rw [if_neg q0, if_neg q0] at e
    by_cases q1 : r = 1
    · rw [if_neg (by omega)] at hb hb'
      rw [if_pos q1, if_pos q1] at e
      omega
    · rw [if_pos (by omega)] at hb hb'
      rw [if_neg q1, if_neg q1] at e
      have h0 : 0 < n := by omega
      have d1 : (a * n + b) / n = a := by rw [Nat.mul_comm, Nat.mul_add_div h0, Nat.div_eq_of_lt hb, Nat.add_zero]
      have d2 : (a' * n + b') / n = a' := by rw [Nat.mul_comm, Nat.mul_add_div h0, Nat.div_eq_of_lt hb', Nat.add_zero]
      rw [e, d2] at d1
      subst d1
      exact ⟨rfl, by omega⟩
theorem ix_surj {n r k : Nat} (hr : r ≤ 2) (hn : 1 ≤ n) (hk : k < pw n r) : ∃ a b, a < rwN n r ∧ b < clN n r ∧ k = ix n r a b := by
  unfold pw at hk
  unfold rwN clN ix
  by_cases q0 : r = 0
  · rw [if_pos q0] at hk
    exact ⟨0, 0, by rw [if_pos q0]; omega, by rw [if_neg (by omega)]; omega, by rw [if_pos q0]; omega⟩
  · rw [if_neg q0] at hk
    by_cases q1 : r = 1
    · rw [if_pos q1] at hk
      exact ⟨k, 0, by rw [if_neg q0]; exact hk, by rw [if_neg (by omega)]; omega, by rw [if_neg q0, if_pos q1]⟩
    · rw [if_neg q1] at hk
      refine ⟨k / n, k % n, by rw [if_neg q0]; exact Nat.div_lt_of_lt_mul hk, by rw [if_pos (by omega)]; exact Nat.mod_lt _ (by omega), ?_⟩
      rw [if_neg q0, if_neg q1, Nat.mul_comm, Nat.div_add_mod]
theorem ix_pw {n r a b : Nat} (hr : r ≤ 2) (hn : 1 ≤ n) (ha : a < rwN n r) (hb : b < clN n r) : ix n r a b < pw n r := by
  unfold rwN at ha
  unfold clN at hb
  refine ix_lt hn (fun q => ?_) (fun q => ?_)
  · rw [if_neg (by omega)] at ha; exact ha
  · rw [if_pos (by omega)] at hb; exact hb
/-- the cells of the table are those of g -/
def TG (n : Nat) (ar : List Nat) (T : Nat → Nat → Int) (g : Nat → Nat → Nat → Nat) : Prop := ∀ o a b, o < ar.length → a < rwN n (ar.getD o 0) → b < clN n (ar.getD o 0) → T o (ix n (ar.getD o 0) a b) = ((g o a b : Nat) : Int)
theorem TG_eq {n : Nat} {ar : List Nat} {T T' : Nat → Nat → Int} {g : Nat → Nat → Nat → Nat} (hn : 1 ≤ n) (h2 : ∀ o, o < ar.length → ar.getD o 0 ≤ 2) (h : TG n ar T g) (h' : TG n ar T' g) : ∀ o, o < ar.length → ∀ k, k < pw n (ar.getD o 0) → T o k = T' o k := fun o ho k hk => by
  obtain ⟨a, b, h1, h3, rfl⟩ := ix_surj (h2 o ho) hn hk
  rw [h o a b ho h1 h3, h' o a b ho h1 h3]
theorem TG_WF {n : Nat} {ar : List Nat} {T : Nat → Nat → Int} {g : Nat → Nat → Nat → Nat} (hn : 1 ≤ n ∧ n ≤ 7) (hl : ar.length ≤ 4) (h2 : ∀ o, o < ar.length → ar.getD o 0 ≤ 2) (h : TG n ar T g) (hg : ∀ o a b, o < ar.length → a < rwN n (ar.getD o 0) → b < clN n (ar.getD o 0) → g o a b < n) : WF n ar T := by
  refine ⟨hn, hl, h2, fun o ho k hk => ?_⟩
  obtain ⟨a, b, h1, h3, rfl⟩ := ix_surj (h2 o ho) hn.1 hk
  rw [h o a b ho h1 h3]
  have := hg o a b ho h1 h3
  omega
theorem RepM_ext {h : HF} {cs co ca cc d n : Nat} {ar : List Nat} {T T' : Nat → Nat → Int} (e : ∀ o, o < ar.length → ∀ k, k < pw n (ar.getD o 0) → T o k = T' o k) (hr : RepM h cs co ca cc d n ar T) : RepM h cs co ca cc d n ar T' := ⟨hr.1, hr.2.1, hr.2.2.1, fun o ho k hk => (hr.2.2.2 o ho k hk).trans (e o ho k hk)⟩
theorem RepC_ext {h : HF} {A n : Nat} {ar : List Nat} {T T' : Nat → Nat → Int} (e : ∀ o, o < ar.length → ∀ k, k < pw n (ar.getD o 0) → T o k = T' o k) (hr : RepC h A n ar T) : RepC h A n ar T' := ⟨hr.1, hr.2.1, hr.2.2.1, hr.2.2.2.1, hr.2.2.2.2.1, fun o ho k hk => (hr.2.2.2.2.2 o ho k hk).trans (e o ho k hk)⟩
section BI
variable {F A n : Nat} {ar : List Nat}
/-- spot and at without a bound on the cells -/
theorem spotG {o a b : Nat} {T : Nat → Nat → Int} {h : HF} (hk : kt A = 0 + 3) (hn : 1 ≤ n ∧ n ≤ 7) (hl : ar.length ≤ 4) (h2 : ∀ o, o < ar.length → ar.getD o 0 ≤ 2) (hr : RepC h A n ar T) (ho : o < ar.length) (ha : a < rwN n (ar.getD o 0)) (hb : b < clN n (ar.getD o 0)) : fX0_spot F A (o : Int) (a : Int) (b : Int) h = some (((sto n ar o + ix n (ar.getD o 0) a b : Nat) : Int), h) := by
  obtain ⟨-, k1, -, k2, -, k3⟩ := zl_0 A hk
  have hs := sto_le hn.2 h2 o (by omega)
  unfold fX0_spot
  rw [zrd_ok (a := A + 1) ⟨by omega, by rw [k1]; omega⟩, Int.toNat_natCast, hr.2.2.2.1 o ho]
  have hr2 := h2 o ho
  generalize ar.getD o 0 = r at ha hb hr2
  unfold rwN at ha
  unfold clN at hb
  unfold ix
  by_cases q0 : r = 0
  · rw [if_pos (by omega), if_pos q0, zrd_ok (a := A + 2) ⟨by omega, by rw [k2]; omega⟩, Int.toNat_natCast, hr.2.2.2.2.1 o (by omega)]
    simp
  · rw [if_neg (by omega), if_neg q0]
    rw [if_neg q0] at ha
    by_cases q1 : r = 1
    · rw [if_pos (by omega), if_pos q1, zrd_ok (a := A + 2) ⟨by omega, by rw [k2]; omega⟩, Int.toNat_natCast, hr.2.2.2.2.1 o (by omega), wr_id ⟨by omega, by omega⟩]
      exact so_eq (by omega)
    · rw [if_pos (by omega)] at hb
      have h5 : a * n ≤ 7 * 7 := Nat.mul_le_mul (by omega) hn.2
      have e6 : (a : Int) * (n : Int) = ((a * n : Nat) : Int) := by rw [Int.natCast_mul]
      rw [if_neg (by omega), if_neg q1, zrd_ok (a := A + 2) ⟨by omega, by rw [k2]; omega⟩, Int.toNat_natCast, hr.2.2.2.2.1 o (by omega)]
      simp only [zgf]
      rw [hr.1, e6, wr_id (x := ((a * n : Nat) : Int)) ⟨by omega, by omega⟩, wr_id (x := ((sto n ar o : Nat) : Int) + ((a * n : Nat) : Int)) ⟨by omega, by omega⟩, wr_id ⟨by omega, by omega⟩]
      exact so_eq (by omega)
end BI
