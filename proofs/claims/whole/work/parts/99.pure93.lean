/-! lines of an algebra under a numbering, and how they compare -/
def invL (n : Nat) (p : List Nat) : List Nat := (List.range n).map (iv p)
def cmpP (p q : List Nat) : List Nat := q.map (fun i => p.getD i 0)
theorem gd_map {f : Nat → Nat} {l : List Nat} {i : Nat} (hi : i < l.length) : (l.map f).getD i 0 = f (l.getD i 0) := by
  rw [List.getD_eq_getElem?_getD, List.getElem?_map, List.getElem?_eq_getElem hi, List.getD_eq_getElem?_getD, List.getElem?_eq_getElem hi]; rfl
theorem gd_range {n i : Nat} (hi : i < n) : (List.range n).getD i 0 = i := by simp [List.getD_eq_getElem?_getD, List.getElem?_range, hi]
theorem inv_get {n : Nat} {p : List Nat} {v : Nat} (hv : v < n) : (invL n p).getD v 0 = iv p v := by
  unfold invL
  rw [gd_map (by rw [List.length_range]; exact hv), gd_range hv]
theorem cmp_get {n : Nat} {p q : List Nat} (hq : q.length = n) {a : Nat} (ha : a < n) : (cmpP p q).getD a 0 = p.getD (q.getD a 0) 0 := by
  unfold cmpP
  rw [gd_map (by omega)]
section PR
variable {n : Nat} {p q : List Nat}
theorem IsP_inv (hn : n ≤ 7) (h : IsP n p) : IsP n (invL n p) := by
  refine ⟨⟨by simp [invL], fun i hi => ?_⟩, fun i j hi hj e => ?_⟩
  · rw [inv_get hi]; exact (iv_lt hn h hi).1
  · rw [inv_get hi, inv_get hj] at e
    rw [← (iv_lt hn h hi).2, ← (iv_lt hn h hj).2, e]
theorem IsP_cmp (h : IsP n p) (h' : IsP n q) : IsP n (cmpP p q) := by
  refine ⟨⟨by simp [cmpP, h'.1.1], fun i hi => ?_⟩, fun i j hi hj e => ?_⟩
  · rw [cmp_get h'.1.1 hi]; exact h.1.2 _ (h'.1.2 i hi)
  · rw [cmp_get h'.1.1 hi, cmp_get h'.1.1 hj] at e
    exact h'.2 i j hi hj (h.2 _ _ (h'.1.2 i hi) (h'.1.2 j hj) e)
theorem iv_inv (hn : n ≤ 7) (h : IsP n p) {i : Nat} (hi : i < n) : iv (invL n p) i = p.getD i 0 := by
  have e : (invL n p).getD (p.getD i 0) 0 = i := by rw [inv_get (h.1.2 i hi), iv_get hn h hi]
  have := iv_get hn (IsP_inv hn h) (h.1.2 i hi)
  rwa [e] at this
theorem inv_inv (hn : n ≤ 7) (h : IsP n p) : invL n (invL n p) = p := by
  refine VL_ext (n := n) (by simp [invL]) h.1.1 fun i hi => ?_
  rw [inv_get hi, iv_inv hn h hi]
theorem iv_cmp (hn : n ≤ 7) (h : IsP n p) (h' : IsP n q) {e : Nat} (he : e < n) : iv (cmpP p q) e = iv q (iv p e) := by
  have a := iv_lt hn h he
  have b := iv_lt hn h' a.1
  have c : (cmpP p q).getD (iv q (iv p e)) 0 = e := by rw [cmp_get h'.1.1 b.1, b.2, a.2]
  have := iv_get hn (IsP_cmp h h') b.1
  rwa [c] at this
theorem iv_range {e : Nat} (h1 : 1 ≤ n) (hn : n ≤ 7) (he : e < n) : iv (List.range n) e = e := by
  have := iv_get hn (IsP_id h1) he
  rwa [gd_range he] at this
theorem cmp_inv (hn : n ≤ 7) (h : IsP n p) (h' : IsP n q) : cmpP (cmpP p q) (invL n q) = p := by
  refine VL_ext (n := n) (by simp [cmpP, invL]) h.1.1 fun i hi => ?_
  have := iv_lt hn h' hi
  rw [cmp_get (by simp [invL]) hi, inv_get hi, cmp_get h'.1.1 this.1, this.2]
theorem cmp_inv2 (hn : n ≤ 7) (h : IsP n p) (h' : IsP n q) : cmpP (cmpP p (invL n q)) q = p := by
  refine VL_ext (n := n) (by simp [cmpP, h'.1.1]) h.1.1 fun i hi => ?_
  rw [cmp_get h'.1.1 hi, cmp_get (by simp [invL]) (h'.1.2 i hi), inv_get (h'.1.2 i hi), iv_get hn h' hi]
theorem cmp_injL (h : IsP n p) {q' : List Nat} (hq : VLn n q) (hq' : VLn n q') (e : cmpP p q = cmpP p q') : q = q' := by
  refine VL_ext hq.1 hq'.1 fun i hi => ?_
  have e2 : (cmpP p q).getD i 0 = (cmpP p q').getD i 0 := by rw [e]
  rw [cmp_get hq.1 hi, cmp_get hq'.1 hi] at e2
  exact h.2 _ _ (hq.2 i hi) (hq'.2 i hi) e2
end PR
/-! comparing -/
def cmpL : List Nat → List Nat → Int
  | x :: l, y :: m => if x = y then cmpL l m else (x : Int) - (y : Int)
  | _, _ => 0
theorem cmpL_app {y : List Nat} : ∀ (x l : List Nat), x.length ≤ l.length → cmpL (x ++ y) l = if cmpL x l = 0 then cmpL y (l.drop x.length) else cmpL x l := by
  intro x
  induction x with
  | nil => intro l _; simp [cmpL]
  | cons a x ih =>
    intro l hl
    cases l with
    | nil => exact absurd hl (by simp)
    | cons b l =>
      rw [List.cons_append, cmpL, cmpL]
      by_cases q : a = b
      · rw [if_pos q, if_pos q, ih l (by simpa using hl)]; rfl
      · rw [if_neg q, if_neg q, if_neg (by omega)]
theorem cmpL_pre {y : List Nat} : ∀ (x l : List Nat), x.length = l.length → cmpL x (l ++ y) = cmpL x l := by
  intro x
  induction x with
  | nil => intro l hl; cases l with
    | nil => cases y <;> rfl
    | cons _ _ => exact absurd hl (by simp)
  | cons a x ih =>
    intro l hl
    cases l with
    | nil => exact absurd hl (by simp)
    | cons b l =>
      rw [List.cons_append, cmpL, cmpL, ih l (by simpa using hl)]
theorem cmpL_app2 {x y x' y' : List Nat} (hl : x.length = x'.length) : cmpL (x ++ y) (x' ++ y') = if cmpL x x' = 0 then cmpL y y' else cmpL x x' := by
  rw [cmpL_app x (x' ++ y') (by rw [List.length_append]; omega), cmpL_pre x x' hl, hl, List.drop_left]
def nm (B : Nat) : List Nat → Nat
  | [] => 0
  | x :: l => x * B ^ l.length + nm B l
theorem nm_lt {B : Nat} : ∀ l : List Nat, (∀ x ∈ l, x < B) → nm B l < B ^ l.length := by
  intro l
  induction l with
  | nil => intro _; rw [nm]; exact Nat.one_pos
  | cons x l ih =>
    intro h
    have h1 := ih (fun y hy => h y (List.mem_cons_of_mem _ hy))
    have h2 := h x (List.mem_cons_self ..)
    rw [nm, List.length_cons, Nat.pow_succ]
    calc x * B ^ l.length + nm B l < x * B ^ l.length + B ^ l.length := by omega
      _ = (x + 1) * B ^ l.length := by rw [Nat.succ_mul]
      _ ≤ B * B ^ l.length := Nat.mul_le_mul_right _ h2
      _ = B ^ l.length * B := Nat.mul_comm _ _
theorem cmp_nm {B : Nat} : ∀ (l m : List Nat), l.length = m.length → (∀ x ∈ l, x < B) → (∀ x ∈ m, x < B) → (cmpL l m < 0 ↔ nm B l < nm B m) ∧ (cmpL l m = 0 ↔ l = m) ∧ (nm B l = nm B m → l = m) := by
  intro l
  induction l with
  | nil => intro m hl _ _; cases m with
    | nil => simp [cmpL, nm]
    | cons _ _ => exact absurd hl (by simp)
  | cons x l ih =>
    intro m hl h1 h2
    cases m with
    | nil => exact absurd hl (by simp)
    | cons y m =>
      have hl' : l.length = m.length := by simpa using hl
      have n1 := nm_lt l (fun z hz => h1 z (List.mem_cons_of_mem _ hz))
      have n2 := nm_lt m (fun z hz => h2 z (List.mem_cons_of_mem _ hz))
      obtain ⟨i1, i2, i3⟩ := ih m hl' (fun z hz => h1 z (List.mem_cons_of_mem _ hz)) (fun z hz => h2 z (List.mem_cons_of_mem _ hz))
      rw [cmpL, nm, nm, hl']
      rw [hl'] at n1
      by_cases q : x = y
      · subst q
        rw [if_pos rfl]
        refine ⟨⟨fun z => by have := i1.mp z; omega, fun z => i1.mpr (by omega)⟩, ⟨fun z => by rw [i2.mp z], fun z => i2.mpr (List.cons.inj z).2⟩, fun z => by rw [i3 (by omega)]⟩
      · rw [if_neg q]
        have big : ∀ a b u v : Nat, a < b → u < B ^ m.length → a * B ^ m.length + u < b * B ^ m.length + v := fun a b u v hab hu => by
          calc a * B ^ m.length + u < a * B ^ m.length + B ^ m.length := by omega
            _ = (a + 1) * B ^ m.length := by rw [Nat.succ_mul]
            _ ≤ b * B ^ m.length := Nat.mul_le_mul_right _ hab
            _ ≤ b * B ^ m.length + v := Nat.le_add_right _ _
        rcases Nat.lt_or_ge x y with z | z
        · have := big x y (nm B l) (nm B m) z n1
          exact ⟨⟨fun _ => this, fun _ => by omega⟩, ⟨fun w => by omega, fun w => absurd (List.cons.inj w).1 q⟩, fun w => by omega⟩
        · have := big y x (nm B m) (nm B l) (by omega) n2
          exact ⟨⟨fun w => by omega, fun w => by omega⟩, ⟨fun w => by omega, fun w => absurd (List.cons.inj w).1 q⟩, fun w => by omega⟩
/-! the line of a table under a numbering -/
section LN
variable {n : Nat} {ar : List Nat} {tb : Nat → Nat → Int} {p q : List Nat}
def lnv (tb : Nat → Nat → Int) (n : Nat) (ar : List Nat) (p : List Nat) (o a b : Nat) : Nat := iv p (vl tb n ar o (p.getD a 0) (p.getD b 0))
def lB (tb : Nat → Nat → Int) (n : Nat) (ar : List Nat) (p : List Nat) (o a b : Nat) : List Nat := [lnv tb n ar p o a b]
def lA (tb : Nat → Nat → Int) (n : Nat) (ar : List Nat) (p : List Nat) (o a : Nat) : List Nat := flF (lB tb n ar p o a) (clN n (ar.getD o 0)) 0
def lO (tb : Nat → Nat → Int) (n : Nat) (ar : List Nat) (p : List Nat) (o : Nat) : List Nat := flF (lA tb n ar p o) (rwN n (ar.getD o 0)) 0
def lnL (tb : Nat → Nat → Int) (n : Nat) (ar : List Nat) (p : List Nat) : List Nat := flF (lO tb n ar p) ar.length 0
theorem flF_const {α : Type} {f : Nat → List α} {c : Nat} : ∀ (m v : Nat), (∀ j, (f j).length = c) → (flF f m v).length = m * c := by
  intro m v h
  rw [flF_len, sumF_congr (g := fun _ => c) m v (fun j _ _ => h j), sumF_const]
theorem lA_len {o a : Nat} : (lA tb n ar p o a).length = clN n (ar.getD o 0) := by
  unfold lA
  rw [flF_const (c := 1) _ _ (fun j => rfl), Nat.mul_one]
theorem rc_pw {r : Nat} (hr : r ≤ 2) : rwN n r * clN n r = pw n r := by
  unfold rwN clN pw
  obtain rfl | rfl | rfl : r = 0 ∨ r = 1 ∨ r = 2 := by omega
  · rfl
  · simp
  · simp
theorem lO_len {o : Nat} (hr : ar.getD o 0 ≤ 2) : (lO tb n ar p o).length = pw n (ar.getD o 0) := by
  unfold lO
  rw [flF_const (c := clN n (ar.getD o 0)) _ _ (fun j => lA_len), rc_pw hr]
theorem lnO_len (h2 : ∀ o, o < ar.length → ar.getD o 0 ≤ 2) : ∀ o, o ≤ ar.length → (flF (lO tb n ar p) o 0).length = sto n ar o := by
  intro o
  induction o with
  | zero => intro _; rfl
  | succ o ih =>
    intro ho
    rw [flF_snoc, List.length_append, ih (by omega), Nat.zero_add, lO_len (h2 o (by omega))]; rfl
theorem lnL_len (h2 : ∀ o, o < ar.length → ar.getD o 0 ≤ 2) : (lnL tb n ar p).length = sto n ar ar.length := lnO_len h2 _ (Nat.le_refl _)
theorem gd_left {l m : List Nat} {i : Nat} (hi : i < l.length) : (l ++ m).getD i 0 = l.getD i 0 := by
  rw [List.getD_eq_getElem?_getD, List.getElem?_append_left hi, ← List.getD_eq_getElem?_getD]
theorem gd_right {l m : List Nat} {i : Nat} : (l ++ m).getD (l.length + i) 0 = m.getD i 0 := by
  rw [List.getD_eq_getElem?_getD, List.getElem?_append_right (Nat.le_add_right _ _), Nat.add_sub_cancel_left, ← List.getD_eq_getElem?_getD]
theorem flF_get {f : Nat → List Nat} {c : Nat} (h : ∀ j, (f j).length = c) : ∀ (m v i j : Nat), i < m → j < c → (flF f m v).getD (i * c + j) 0 = (f (v + i)).getD j 0 := by
  intro m
  induction m with
  | zero => intro v i j hi _; omega
  | succ m ih =>
    intro v i j hi hj
    rw [flF_s]
    cases i with
    | zero => rw [Nat.zero_mul, Nat.zero_add, gd_left (by rw [h]; exact hj)]; rfl
    | succ i =>
      have e : (i + 1) * c + j = (f v).length + (i * c + j) := by rw [h, Nat.succ_mul]; omega
      rw [e, gd_right, ih (v + 1) i j (by omega) hj, Nat.add_assoc, Nat.add_comm 1 i]
theorem ix_rc {r a b : Nat} (hr : r ≤ 2) (ha : a < rwN n r) (hb : b < clN n r) : ix n r a b = a * clN n r + b := by
  unfold rwN at ha
  unfold clN at hb
  unfold ix clN
  obtain rfl | rfl | rfl : r = 0 ∨ r = 1 ∨ r = 2 := by omega
  · simp at ha hb ⊢; omega
  · simp at ha hb ⊢; omega
  · simp
theorem lnL_get (h2 : ∀ o, o < ar.length → ar.getD o 0 ≤ 2) {o a b : Nat} (ho : o < ar.length) (ha : a < rwN n (ar.getD o 0)) (hb : b < clN n (ar.getD o 0)) : (lnL tb n ar p).getD (sto n ar o + ix n (ar.getD o 0) a b) 0 = lnv tb n ar p o a b := by
  have e : lnL tb n ar p = flF (lO tb n ar p) o 0 ++ (lO tb n ar p o ++ flF (lO tb n ar p) (ar.length - o - 1) (o + 1)) := by
    unfold lnL
    rw [← flF_s, show ar.length = o + (ar.length - o - 1 + 1) by omega, flF_split, Nat.zero_add, show o + (ar.length - o - 1 + 1) - o - 1 = ar.length - o - 1 by omega]
  have hr := h2 o ho
  have hi : ix n (ar.getD o 0) a b < (lO tb n ar p o).length := by
    rw [lO_len hr, ← rc_pw hr, ix_rc hr ha hb]
    calc a * clN n (ar.getD o 0) + b < a * clN n (ar.getD o 0) + clN n (ar.getD o 0) := by omega
      _ = (a + 1) * clN n (ar.getD o 0) := by rw [Nat.succ_mul]
      _ ≤ _ := Nat.mul_le_mul_right _ ha
  rw [e, ← lnO_len (tb := tb) (p := p) h2 o (by omega), gd_right, gd_left hi, ix_rc hr ha hb]
  unfold lO
  rw [flF_get (fun j => lA_len) _ _ _ _ ha hb, Nat.zero_add]
  unfold lA
  have := flF_get (f := lB tb n ar p o a) (c := 1) (fun j => rfl) (clN n (ar.getD o 0)) 0 b 0 hb (by omega)
  rw [Nat.mul_one, Nat.add_zero, Nat.zero_add] at this
  rw [this]; rfl
/-- the table that a line holds -/
def tbL (n : Nat) (ar : List Nat) (l : List Nat) (o k : Nat) : Int := ((l.getD (sto n ar o + k) 0 : Nat) : Int)
theorem vl_tbL {l : List Nat} {o a b : Nat} : vl (tbL n ar l) n ar o a b = l.getD (sto n ar o + ix n (ar.getD o 0) a b) 0 := by
  unfold vl tbL
  rw [Int.toNat_natCast]
/-- only the arguments that count -/
theorem ix_nrm {r a b : Nat} (hn : 1 ≤ n) (hr : r ≤ 2) (ha : a < n) (hb : b < n) : ∃ a' b', a' < rwN n r ∧ b' < clN n r ∧ (1 ≤ r → a' = a) ∧ (2 ≤ r → b' = b) := by
  unfold rwN clN
  obtain rfl | rfl | rfl : r = 0 ∨ r = 1 ∨ r = 2 := by omega
  · exact ⟨0, 0, by simp, by simp, fun h => by omega, fun h => by omega⟩
  · exact ⟨a, 0, by simpa using ha, by simp, fun _ => rfl, fun h => by omega⟩
  · exact ⟨a, b, by simpa using ha, by simpa using hb, fun _ => rfl, fun _ => rfl⟩
theorem ix_same {r a b a' b' : Nat} (h1 : 1 ≤ r → a' = a) (h2 : 2 ≤ r → b' = b) : ix n r a' b' = ix n r a b := by
  unfold ix
  by_cases q0 : r = 0
  · rw [if_pos q0, if_pos q0]
  · rw [if_neg q0, if_neg q0]
    by_cases q1 : r = 1
    · rw [if_pos q1, if_pos q1, h1 (by omega)]
    · rw [if_neg q1, if_neg q1, h1 (by omega), h2 (by omega)]
theorem vl_img (hn : 1 ≤ n) (h2 : ∀ o, o < ar.length → ar.getD o 0 ≤ 2) {o a b : Nat} (ho : o < ar.length) (ha : a < n) (hb : b < n) : vl (tbL n ar (lnL tb n ar p)) n ar o a b = lnv tb n ar p o a b := by
  obtain ⟨a', b', c1, c2, c3, c4⟩ := ix_nrm hn (h2 o ho) ha hb
  rw [vl_tbL, ← ix_same c3 c4, lnL_get h2 ho c1 c2]
  unfold lnv vl
  rw [ix_same (n := n) (r := ar.getD o 0) (a := p.getD a 0) (b := p.getD b 0) (fun h => by rw [c3 h]) (fun h => by rw [c4 h])]
theorem rwN_le (hn : 1 ≤ n) {r : Nat} : rwN n r ≤ n ∧ clN n r ≤ n := rw_le hn
theorem lnL_congr {tb' : Nat → Nat → Int} {p' : List Nat} (hn : 1 ≤ n) (h : ∀ o a b, o < ar.length → a < n → b < n → lnv tb n ar p o a b = lnv tb' n ar p' o a b) : lnL tb n ar p = lnL tb' n ar p' := by
  unfold lnL
  refine flF_congr _ _ fun o _ ho => ?_
  unfold lO
  refine flF_congr _ _ fun a _ ha => ?_
  unfold lA
  refine flF_congr _ _ fun b _ hb => ?_
  unfold lB
  have := rwN_le hn (r := ar.getD o 0)
  rw [h o a b (by omega) (by omega) (by omega)]
theorem lnL_mem {x : Nat} (hn : 1 ≤ n) (h : x ∈ lnL tb n ar p) : ∃ o a b, o < ar.length ∧ a < n ∧ b < n ∧ x = lnv tb n ar p o a b := by
  unfold lnL at h
  obtain ⟨o, _, ho, h⟩ := (mem_flF _ _).mp h
  unfold lO at h
  obtain ⟨a, _, ha, h⟩ := (mem_flF _ _).mp h
  unfold lA at h
  obtain ⟨b, _, hb, h⟩ := (mem_flF _ _).mp h
  have := rwN_le hn (r := ar.getD o 0)
  exact ⟨o, a, b, by omega, by omega, by omega, List.mem_singleton.mp h⟩
theorem lnv_lt (hw : WF n ar tb) (hp : IsP n p) {o a b : Nat} (ho : o < ar.length) (ha : a < n) (hb : b < n) : lnv tb n ar p o a b < n := (iv_lt hw.1.2 hp (vl_eq hw ho (hp.1.2 a ha) (hp.1.2 b hb)).2).1
theorem lnL_lt (hw : WF n ar tb) (hp : IsP n p) : ∀ x ∈ lnL tb n ar p, x < n := fun x hx => by
  obtain ⟨o, a, b, ho, ha, hb, rfl⟩ := lnL_mem hw.1.1 hx
  exact lnv_lt hw hp ho ha hb
theorem WF_tbL {l : List Nat} (hn : 1 ≤ n ∧ n ≤ 7) (hl : ar.length ≤ 4) (h2 : ∀ o, o < ar.length → ar.getD o 0 ≤ 2) (hv : ∀ x ∈ l, x < n) : WF n ar (tbL n ar l) := by
  refine ⟨hn, hl, h2, fun o ho k hk => ?_⟩
  unfold tbL
  have : l.getD (sto n ar o + k) 0 < n := by
    by_cases q : sto n ar o + k < l.length
    · exact hv _ (mem_gd q)
    · rw [List.getD_eq_getElem?_getD, List.getElem?_eq_none (by omega)]
      exact hn.1
  omega
theorem lnL_cmp (hw : WF n ar tb) (hp : IsP n p) (hq : IsP n q) : lnL (tbL n ar (lnL tb n ar p)) n ar q = lnL tb n ar (cmpP p q) := by
  refine lnL_congr hw.1.1 fun o a b ho ha hb => ?_
  unfold lnv
  have h1 := hq.1.2 a ha
  have h2 := hq.1.2 b hb
  rw [vl_img hw.1.1 hw.2.2.1 ho h1 h2, cmp_get hq.1.1 ha, cmp_get hq.1.1 hb, iv_cmp hw.1.2 hp hq (vl_eq hw ho (hp.1.2 _ h1) (hp.1.2 _ h2)).2]
  rfl
end LN
