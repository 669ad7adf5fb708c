/-! functions: lines of functions, codes, lists -/
theorem len_sub : ∀ (l1 l2 : List (List Nat)), l1.Nodup → (∀ x ∈ l1, x ∈ l2) → l1.length ≤ l2.length
  | [], _, _, _ => Nat.zero_le _
  | x :: t, l2, hn, hs => by
    have hx := hs x (by simp)
    have h1 := List.length_erase_of_mem hx
    have hp : 0 < l2.length := List.length_pos_of_mem hx
    have hn' := List.nodup_cons.mp hn
    have h2 := len_sub t (l2.erase x) hn'.2 (fun y hy => by
      have hne : y ≠ x := fun e => hn'.1 (e ▸ hy)
      exact (List.mem_erase_of_ne hne).mpr (hs y (by simp [hy])))
    simp only [List.length_cons]
    omega
/-- a line of a function -/
def VLn (n : Nat) (l : List Nat) : Prop := l.length = n ∧ ∀ i, i < n → l.getD i 0 < n
theorem VL_7 {n : Nat} {l : List Nat} (hn : n ≤ 7) (h : VLn n l) : ∀ i, l.getD i 0 < 7 := fun i => by
  by_cases q : i < n
  · have := h.2 i q; omega
  · rw [gd_out (by have := h.1; omega)]; omega
theorem VL_ext {n : Nat} {x y : List Nat} (hx : x.length = n) (hy : y.length = n) (h : ∀ i, i < n → x.getD i 0 = y.getD i 0) : x = y := by
  apply List.ext_getElem?
  intro i
  by_cases q : i < n
  · have := h i q
    rw [List.getD_eq_getElem?_getD, List.getD_eq_getElem?_getD, List.getElem?_eq_getElem (by omega), List.getElem?_eq_getElem (by omega)] at this
    rw [List.getElem?_eq_getElem (by omega), List.getElem?_eq_getElem (by omega)]
    exact congrArg some this
  · rw [List.getElem?_eq_none (by omega), List.getElem?_eq_none (by omega)]
def cdL (n : Nat) (l : List Nat) : Nat := cdR l 0 0 n
theorem cdL_inj {n : Nat} {x y : List Nat} (hn : n ≤ 7) (hx : VLn n x) (hy : VLn n y) (h : cdL n x = cdL n y) : x = y := VL_ext hx.1 hy.1 (cd_inj (VL_7 hn hx) (VL_7 hn hy) n h)
theorem cdL_lt {n : Nat} {l : List Nat} (hn : n ≤ 7) (h : VLn n l) : cdL n l < 823544 := by
  have h1 := cdR_lt (VL_7 hn h) n
  have h2 := pow7 n hn
  unfold cdL; omega
/-- an operation's values of two functions -/
def apL (tb : Nat → Nat → Int) (n : Nat) (ar : List Nat) (o : Nat) (f g : List Nat) : List Nat := (List.range n).map (fun e => vl tb n ar o (f.getD e 0) (g.getD e 0))
theorem ap_get {tb : Nat → Nat → Int} {n : Nat} {ar : List Nat} {o e : Nat} {f g : List Nat} (he : e < n) : (apL tb n ar o f g).getD e 0 = vl tb n ar o (f.getD e 0) (g.getD e 0) := by
  unfold apL
  rw [List.getD_eq_getElem?_getD, List.getElem?_map, List.getElem?_range he]
  rfl
theorem ap_VL {tb : Nat → Nat → Int} {n : Nat} {ar : List Nat} {o : Nat} {f g : List Nat} (hw : WF n ar tb) (ho : o < ar.length) (hf : ∀ e, e < n → f.getD e 0 < n) (hg : ∀ e, e < n → g.getD e 0 < n) : VLn n (apL tb n ar o f g) := by
  refine ⟨by unfold apL; rw [List.length_map, List.length_range], fun e he => ?_⟩
  rw [ap_get he]
  exact (vl_eq hw ho (hf e he) (hg e he)).2
theorem ap_congr {tb : Nat → Nat → Int} {n : Nat} {ar : List Nat} {o : Nat} {f g f' g' : List Nat} (h1 : 1 ≤ ar.getD o 0 → f = f') (h2 : 2 ≤ ar.getD o 0 → g = g') : apL tb n ar o f g = apL tb n ar o f' g' := by
  unfold apL
  apply List.map_congr_left
  intro e _
  exact vl_congr (fun z => by rw [h1 z]) (fun z => by rw [h2 z])
theorem id_VL {n : Nat} (hn : 1 ≤ n) : VLn n (List.range n) := ⟨List.length_range, fun i hi => by rw [rng_get hi]; exact hi⟩
/-- what terms with x alone tell -/
def Gen (tb : Nat → Nat → Int) (n : Nat) (ar : List Nat) (x : List Nat) : Prop := ∀ S : List Nat → Prop, S (List.range n) → (∀ o f g, o < ar.length → S f → S g → S (apL tb n ar o f g)) → S x
theorem Gen_id {tb : Nat → Nat → Int} {n : Nat} {ar : List Nat} : Gen tb n ar (List.range n) := fun _ h _ => h
theorem Gen_ap {tb : Nat → Nat → Int} {n : Nat} {ar : List Nat} {o : Nat} {f g : List Nat} (ho : o < ar.length) (hf : Gen tb n ar f) (hg : Gen tb n ar g) : Gen tb n ar (apL tb n ar o f g) := fun S h1 h2 => h2 o f g ho (hf S h1 h2) (hg S h1 h2)
/-- the functions of an algebra so far: lines, none twice, all told by terms -/
def FL (tb : Nat → Nat → Int) (n : Nat) (ar : List Nat) (Ls : List (List Nat)) : Prop := Ls.Nodup ∧ Ls.length ≤ 300 ∧ ∀ l ∈ Ls, VLn n l ∧ Gen tb n ar l
/-- closed under all operations -/
def ClL (tb : Nat → Nat → Int) (n : Nat) (ar : List Nat) (Ls : List (List Nat)) : Prop := List.range n ∈ Ls ∧ ∀ o f g, o < ar.length → f ∈ Ls → g ∈ Ls → apL tb n ar o f g ∈ Ls
theorem Cl_gen {tb : Nat → Nat → Int} {n : Nat} {ar : List Nat} {Ls : List (List Nat)} (h : ClL tb n ar Ls) {x : List Nat} (hx : Gen tb n ar x) : x ∈ Ls := hx (fun y => y ∈ Ls) h.1 (fun o f g ho hf hg => h.2 o f g ho hf hg)
/-! the class: codes in order -/
def SO (cs : List Nat) : Prop := ∀ i j, i < j → j < cs.length → cs.getD i 0 < cs.getD j 0
theorem k111 : kl 111 = 300 := by decide +kernel
theorem k112 : kl 112 = 2100 := by decide +kernel
theorem k113 : kl 113 = 7 := by decide +kernel
theorem rd111 {h : HF} {i : Nat} {f : Int → RO} (hi : i < 300) : zrd h (110 + 1) (i : Int) f = f (h 111 i) := by rw [zrd_ok (a := 110 + 1) ⟨by omega, by rw [show kl (110 + 1) = 300 from k111]; omega⟩, Int.toNat_natCast]
theorem wt111 {h : HF} {i : Nat} {v : Int} {f : HF → RO} (hi : i < 300) : zwr h (110 + 1) (i : Int) v f = f (stp h 111 i v) := by rw [zwr_ok (a := 110 + 1) ⟨by omega, by rw [show kl (110 + 1) = 300 from k111]; omega⟩, Int.toNat_natCast]
theorem rd112 {h : HF} {i : Nat} {f : Int → RO} (hi : i < 2100) : zrd h (110 + 2) (i : Int) f = f (h 112 i) := by rw [zrd_ok (a := 110 + 2) ⟨by omega, by rw [show kl (110 + 2) = 2100 from k112]; omega⟩, Int.toNat_natCast]
theorem wt113 {h : HF} {i : Nat} {v : Int} {f : HF → RO} (hi : i < 7) : zwr h (110 + 3) (i : Int) v f = f (stp h 113 i v) := by rw [zwr_ok (a := 110 + 3) ⟨by omega, by rw [show kl (110 + 3) = 7 from k113]; omega⟩, Int.toNat_natCast]
/-- codes that stand in the class's row -/
def CSr (h : HF) (cs : List Nat) : Prop := ∀ k, k < cs.length → h 111 k = (cs.getD k 0 : Int)
theorem place_L {F : Nat} {h : HF} {cs : List Nat} {c : Nat} (hl : cs.length ≤ 300) (hs : SO cs) (hc : CSr h cs) {k58 : Int → HF → RO} : ∀ (m lo hi i N : Nat), lo + m = hi → hi ≤ cs.length → i + m ≤ 300 → m + 1 ≤ N → (∀ k, k < lo → cs.getD k 0 < c) → (∀ k, hi ≤ k → k < cs.length → c ≤ cs.getD k 0) → ∃ p : Nat, LX9_placeOf_10 F 110 (c : Int) k58 N (lo : Int) (hi : Int) (i : Int) h = k58 (p : Int) h ∧ p ≤ cs.length ∧ (∀ k, k < p → cs.getD k 0 < c) ∧ ∀ k, p ≤ k → k < cs.length → c ≤ cs.getD k 0 := by
  intro m
  induction m using Nat.strongRecOn with
  | ind m ih =>
    intro lo hi i N hm hhi hi3 hN h1 h2
    obtain ⟨N, rfl⟩ : ∃ M, N = M + 1 := ⟨N - 1, by omega⟩
    rw [LX9_placeOf_10]
    by_cases q : lo < hi
    · have dv : wdiv (wr ((lo : Int) + (hi : Int))) 2 = (((lo + hi) / 2 : Nat) : Int) := by
        rw [wr_id ⟨by omega, by omega⟩, show (lo : Int) + (hi : Int) = ((lo + hi : Nat) : Int) by omega]
        exact wdiv_N (k := 2) (by omega)
      rw [if_pos (by omega), if_pos (by omega), zdv_ok (by decide), dv, zlet_eq, rd111 (by omega), hc _ (by omega)]
      simp only [zjn_eq, zlet_eq]
      rw [wr_s (by omega), wr_s (by omega)]
      by_cases q1 : cs.getD ((lo + hi) / 2) 0 < c
      · rw [if_pos (by omega)]
        exact ih (hi - ((lo + hi) / 2 + 1)) (by omega) ((lo + hi) / 2 + 1) hi (i + 1) N (by omega) hhi (by omega) (by omega) (fun k hk => by
          by_cases z : k = (lo + hi) / 2
          · rw [z]; exact q1
          · have := hs k ((lo + hi) / 2) (by omega) (by omega); omega) h2
      · rw [if_neg (by omega)]
        exact ih ((lo + hi) / 2 - lo) (by omega) lo ((lo + hi) / 2) (i + 1) N (by omega) (by omega) (by omega) (by omega) h1 (fun k k1 k2 => by
          by_cases z : k = (lo + hi) / 2
          · rw [z]; omega
          · have := hs ((lo + hi) / 2) k (by omega) k2; omega)
    · have : lo = hi := by omega
      subst this
      refine ⟨lo, ?_, hhi, h1, h2⟩
      by_cases z : (i : Int) < 300
      · rw [if_pos z, if_neg (by omega)]
      · rw [if_neg z]
theorem placeOf_eq {F : Nat} {h : HF} {cs : List Nat} {c : Nat} (hF : 302 ≤ F) (hl : cs.length ≤ 300) (h1 : h 110 1 = (cs.length : Int)) (hs : SO cs) (hc : CSr h cs) : ∃ p : Nat, fX9_placeOf F 110 (c : Int) h = some ((p : Int), h) ∧ p ≤ cs.length ∧ (∀ k, k < p → cs.getD k 0 < c) ∧ ∀ k, p ≤ k → k < cs.length → c ≤ cs.getD k 0 := by
  obtain ⟨p, x1, x2⟩ := place_L (F := F) (c := c) hl hs hc (k58 := fun x h => some (x, h)) cs.length 0 cs.length 0 F (by omega) (Nat.le_refl _) (by omega) (by omega) (fun k hk => absurd hk (by omega)) (fun k k1 k2 => absurd k1 (by omega))
  refine ⟨p, ?_, x2⟩
  unfold fX9_placeOf
  rw [zgf_eq, zjn_eq, h1]
  exact x1
theorem zcp_at {h : HF} {a b : Nat} {sp dp n : Nat} {f : HF → RO} (h1 : sp + n ≤ kl a) (h2 : dp + n ≤ kl b) : zcp h a (sp : Int) b (dp : Int) (n : Int) f = f (cpy h a sp b dp n) := by
  unfold zcp
  rw [if_pos ⟨by omega, by omega, by omega, by omega, by omega⟩, Int.toNat_natCast, Int.toNat_natCast, Int.toNat_natCast]
/-- a code comes to its place -/
def insC (cs : List Nat) (p c : Nat) : List Nat := cs.take p ++ c :: cs.drop p
theorem ins_get {cs : List Nat} {p c k : Nat} (hp : p ≤ cs.length) : (insC cs p c).getD k 0 = if k < p then cs.getD k 0 else if k = p then c else cs.getD (k - 1) 0 := by
  unfold insC
  by_cases q : k < p
  · rw [if_pos q, List.getD_eq_getElem?_getD, List.getElem?_append_left (by rw [List.length_take]; omega), List.getElem?_take_of_lt q, List.getD_eq_getElem?_getD]
  · rw [if_neg q, List.getD_eq_getElem?_getD, List.getElem?_append_right (by rw [List.length_take]; omega), List.length_take, show min p cs.length = p by omega]
    by_cases z : k = p
    · rw [if_pos z, z, Nat.sub_self]; rfl
    · rw [if_neg z, show k - p = (k - p - 1) + 1 by omega, List.getElem?_cons_succ, List.getElem?_drop, List.getD_eq_getElem?_getD, show p + (k - p - 1) = k - 1 by omega]
theorem ins_len {cs : List Nat} {p c : Nat} (hp : p ≤ cs.length) : (insC cs p c).length = cs.length + 1 := by
  unfold insC
  rw [List.length_append, List.length_take, List.length_cons, List.length_drop]; omega
theorem ins_mem {cs : List Nat} {p c x : Nat} : x ∈ insC cs p c ↔ x = c ∨ x ∈ cs := by
  unfold insC
  rw [List.mem_append, List.mem_cons]
  constructor
  · rintro (h | h | h)
    · exact Or.inr (List.mem_of_mem_take h)
    · exact Or.inl h
    · exact Or.inr (List.mem_of_mem_drop h)
  · rintro (h | h)
    · exact Or.inr (Or.inl h)
    · have : x ∈ cs.take p ++ cs.drop p := by rw [List.take_append_drop]; exact h
      rcases List.mem_append.mp this with z | z
      · exact Or.inl z
      · exact Or.inr (Or.inr z)
theorem ins_SO {cs : List Nat} {p c : Nat} (hp : p ≤ cs.length) (hs : SO cs) (h1 : ∀ k, k < p → cs.getD k 0 < c) (h2 : ∀ k, p ≤ k → k < cs.length → c < cs.getD k 0) : SO (insC cs p c) := by
  intro i j hij hj
  rw [ins_len hp] at hj
  rw [ins_get hp, ins_get hp]
  by_cases qi : i < p
  · rw [if_pos qi]
    by_cases qj : j < p
    · rw [if_pos qj]; exact hs i j hij (by omega)
    · rw [if_neg qj]
      by_cases z : j = p
      · rw [if_pos z]; exact h1 i qi
      · rw [if_neg z]; exact hs i (j - 1) (by omega) (by omega)
  · rw [if_neg qi, if_neg (show ¬ j < p by omega)]
    by_cases z : i = p
    · rw [if_pos z, if_neg (by omega)]; exact h2 (j - 1) (by omega) (by omega)
    · rw [if_neg z, if_neg (by omega)]; exact hs (i - 1) (j - 1) (by omega) (by omega)
/-- the class's functions -/
def FCl (h : HF) (A n : Nat) (Ls : List (List Nat)) : Prop := h 110 5 = (A : Int) ∧ h 110 1 = (Ls.length : Int) ∧ (∀ i, i < Ls.length → ∀ e, e < n → h 112 (7 * i + e) = ((Ls.getD i []).getD e 0 : Int)) ∧ ∃ cs : List Nat, cs.length = Ls.length ∧ SO cs ∧ CSr h cs ∧ ∀ c, c ∈ cs ↔ ∃ l ∈ Ls, cdL n l = c
