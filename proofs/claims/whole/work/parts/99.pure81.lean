/-! maps: the class's cells, by their greatest element -/
def mxC (tb : Nat → Nat → Int) (n : Nat) (ar : List Nat) (o a b : Nat) : Nat := max (vl tb n ar o a b) (max a b)
def gB (tb : Nat → Nat → Int) (n : Nat) (ar : List Nat) (e o a b : Nat) : List (Nat × Nat × Nat) := if mxC tb n ar o a b = e then [(o, a, b)] else []
def gA (tb : Nat → Nat → Int) (n : Nat) (ar : List Nat) (e o a : Nat) : List (Nat × Nat × Nat) := flF (gB tb n ar e o a) (clN n (ar.getD o 0)) 0
def gO (tb : Nat → Nat → Int) (n : Nat) (ar : List Nat) (e o : Nat) : List (Nat × Nat × Nat) := flF (gA tb n ar e o) (rwN n (ar.getD o 0)) 0
def gE (tb : Nat → Nat → Int) (n : Nat) (ar : List Nat) (e : Nat) : List (Nat × Nat × Nat) := flF (gO tb n ar e) ar.length 0
theorem mem_gE {tb : Nat → Nat → Int} {n : Nat} {ar : List Nat} {e : Nat} {q : Nat × Nat × Nat} : q ∈ gE tb n ar e ↔ (q.1 < ar.length ∧ q.2.1 < rwN n (ar.getD q.1 0) ∧ q.2.2 < clN n (ar.getD q.1 0) ∧ mxC tb n ar q.1 q.2.1 q.2.2 = e) := by
  unfold gE gO gA gB
  rw [mem_flF]
  constructor
  · rintro ⟨o, _, ho, h⟩
    rw [mem_flF] at h
    obtain ⟨a, _, ha, h⟩ := h
    rw [mem_flF] at h
    obtain ⟨b, _, hb, h⟩ := h
    by_cases z : mxC tb n ar o a b = e
    · rw [if_pos z, List.mem_singleton] at h
      subst h
      exact ⟨show o < ar.length by omega, show a < rwN n (ar.getD o 0) by omega, show b < clN n (ar.getD o 0) by omega, z⟩
    · rw [if_neg z] at h; exact absurd h (by simp)
  · rintro ⟨h1, h2, h3, h4⟩
    refine ⟨q.1, by omega, by omega, ?_⟩
    rw [mem_flF]
    refine ⟨q.2.1, by omega, by omega, ?_⟩
    rw [mem_flF]
    refine ⟨q.2.2, by omega, by omega, ?_⟩
    rw [if_pos h4]
    simp
/-- together they are not more than there are cells -/
theorem gE_len {tb : Nat → Nat → Int} {n : Nat} {ar : List Nat} (h2 : ∀ o, o < ar.length → ar.getD o 0 ≤ 2) (m : Nat) : (flF (gE tb n ar) m 0).length ≤ sto n ar ar.length := by
  have e1 : ∀ e, (gE tb n ar e).length = sumF (fun o => sumF (fun a => sumF (fun b => if mxC tb n ar o a b = e then 1 else 0) (clN n (ar.getD o 0)) 0) (rwN n (ar.getD o 0)) 0) ar.length 0 := fun e => by
    unfold gE
    rw [flF_len]
    refine sumF_congr _ _ (fun o _ _ => ?_)
    unfold gO
    rw [flF_len]
    refine sumF_congr _ _ (fun a _ _ => ?_)
    unfold gA
    rw [flF_len]
    refine sumF_congr _ _ (fun b _ _ => ?_)
    unfold gB
    by_cases z : mxC tb n ar o a b = e
    · rw [if_pos z, if_pos z]; rfl
    · rw [if_neg z, if_neg z]; rfl
  rw [flF_len, sumF_congr m 0 (fun e _ _ => e1 e), sumF_comm]
  have e2 : ∀ (k o : Nat), o + k ≤ ar.length → sumF (fun o => sumF (fun e => sumF (fun a => sumF (fun b => if mxC tb n ar o a b = e then 1 else 0) (clN n (ar.getD o 0)) 0) (rwN n (ar.getD o 0)) 0) m 0) k o + sto n ar o ≤ sto n ar (o + k) := by
    intro k
    induction k with
    | zero => intro o _; show 0 + _ ≤ _; rw [Nat.zero_add]; exact Nat.le_refl _
    | succ k ih =>
      intro o ho
      have h1 := ih (o + 1) (by omega)
      have h3 : sumF (fun e => sumF (fun a => sumF (fun b => if mxC tb n ar o a b = e then 1 else 0) (clN n (ar.getD o 0)) 0) (rwN n (ar.getD o 0)) 0) m 0 ≤ pw n (ar.getD o 0) := by
        rw [sumF_comm, ← rw_cl (h2 o (by omega)), ← sumF_const (c := clN n (ar.getD o 0)) (rwN n (ar.getD o 0)) 0]
        refine sumF_le _ _ (fun a _ _ => ?_)
        rw [sumF_comm]
        have := sumF_const (c := 1) (clN n (ar.getD o 0)) 0
        rw [Nat.mul_one] at this
        refine Nat.le_trans ?_ (Nat.le_of_eq this)
        exact sumF_le _ _ (fun b _ _ => (sumF_one m 0).1)
      rw [sumF_s]
      have e3 : sto n ar (o + 1) = sto n ar o + pw n (ar.getD o 0) := rfl
      rw [show o + (k + 1) = o + 1 + k by omega]
      omega
  have := e2 ar.length 0 (by omega)
  rw [Nat.zero_add] at this
  have e4 : sto n ar 0 = 0 := rfl
  omega
theorem k99 : kl 99 = 7 := by decide +kernel
theorem k104 : kl 104 = 7 := by decide +kernel
theorem k10x : kl 100 = 196 ∧ kl 101 = 196 ∧ kl 102 = 196 ∧ kl 103 = 196 := by decide +kernel
theorem rd99 {h : HF} {i : Nat} {f : Int → RO} (hi : i < 7) : zrd h (98 + 1) (i : Int) f = f (h 99 i) := by rw [zrd_ok (a := 98 + 1) ⟨by omega, by rw [show kl (98 + 1) = 7 from k99]; omega⟩, Int.toNat_natCast]
theorem wt99 {h : HF} {i : Nat} {v : Int} {f : HF → RO} (hi : i < 7) : zwr h (98 + 1) (i : Int) v f = f (stp h 99 i v) := by rw [zwr_ok (a := 98 + 1) ⟨by omega, by rw [show kl (98 + 1) = 7 from k99]; omega⟩, Int.toNat_natCast]
theorem rd104 {h : HF} {i : Nat} {f : Int → RO} (hi : i < 7) : zrd h (98 + 6) (i : Int) f = f (h 104 i) := by rw [zrd_ok (a := 98 + 6) ⟨by omega, by rw [show kl (98 + 6) = 7 from k104]; omega⟩, Int.toNat_natCast]
theorem wt104 {h : HF} {i : Nat} {v : Int} {f : HF → RO} (hi : i < 7) : zwr h (98 + 6) (i : Int) v f = f (stp h 104 i v) := by rw [zwr_ok (a := 98 + 6) ⟨by omega, by rw [show kl (98 + 6) = 7 from k104]; omega⟩, Int.toNat_natCast]
theorem rd10x {h : HF} {c i : Nat} {f : Int → RO} (hc : c = 2 ∨ c = 3 ∨ c = 4 ∨ c = 5) (hi : i < 196) : zrd h (98 + c) (i : Int) f = f (h (98 + c) i) := by
  obtain ⟨a1, a2, a3, a4⟩ := k10x
  rcases hc with rfl | rfl | rfl | rfl
  · rw [zrd_ok (a := 98 + 2) ⟨by omega, by rw [show kl (98 + 2) = 196 from a1]; omega⟩, Int.toNat_natCast]
  · rw [zrd_ok (a := 98 + 3) ⟨by omega, by rw [show kl (98 + 3) = 196 from a2]; omega⟩, Int.toNat_natCast]
  · rw [zrd_ok (a := 98 + 4) ⟨by omega, by rw [show kl (98 + 4) = 196 from a3]; omega⟩, Int.toNat_natCast]
  · rw [zrd_ok (a := 98 + 5) ⟨by omega, by rw [show kl (98 + 5) = 196 from a4]; omega⟩, Int.toNat_natCast]
theorem wt10x {h : HF} {c i : Nat} {v : Int} {f : HF → RO} (hc : c = 2 ∨ c = 3 ∨ c = 4 ∨ c = 5) (hi : i < 196) : zwr h (98 + c) (i : Int) v f = f (stp h (98 + c) i v) := by
  obtain ⟨a1, a2, a3, a4⟩ := k10x
  rcases hc with rfl | rfl | rfl | rfl
  · rw [zwr_ok (a := 98 + 2) ⟨by omega, by rw [show kl (98 + 2) = 196 from a1]; omega⟩, Int.toNat_natCast]
  · rw [zwr_ok (a := 98 + 3) ⟨by omega, by rw [show kl (98 + 3) = 196 from a2]; omega⟩, Int.toNat_natCast]
  · rw [zwr_ok (a := 98 + 4) ⟨by omega, by rw [show kl (98 + 4) = 196 from a3]; omega⟩, Int.toNat_natCast]
  · rw [zwr_ok (a := 98 + 5) ⟨by omega, by rw [show kl (98 + 5) = 196 from a4]; omega⟩, Int.toNat_natCast]
/-- the cells that are sorted so far -/
def ARw (h : HF) (tb : Nat → Nat → Int) (n : Nat) (ar : List Nat) (M : List (Nat × Nat × Nat)) : Prop := ∀ (i : Nat) q, M[i]? = some q → h 100 i = (q.1 : Int) ∧ h 101 i = (q.2.1 : Int) ∧ h 102 i = (q.2.2 : Int) ∧ h 103 i = (vl tb n ar q.1 q.2.1 q.2.2 : Int)
section SC
variable {F n A : Nat} {ar : List Nat} {tb : Nat → Nat → Int}
theorem AR_push {h : HF} {M : List (Nat × Nat × Nat)} {o a b : Nat} (hM : ARw h tb n ar M) : ARw (stp (stp (stp (stp (stp h 100 M.length (o : Int)) 101 M.length (a : Int)) 102 M.length (b : Int)) 103 M.length (vl tb n ar o a b : Int)) 98 14 ((M.length + 1 : Nat) : Int)) tb n ar (M ++ [(o, a, b)]) := by
  intro i q hq
  by_cases z : i < M.length
  · rw [List.getElem?_append_left z] at hq
    have := hM i q hq
    rw [stp_ne (by omega), stp_ne (by omega), stp_ne (by omega), stp_ne (by omega), stp_ne (by omega), stp_ne (by omega), stp_ne (by omega), stp_ne (by omega), stp_ne (by omega), stp_ne (by omega), stp_ne (by omega), stp_ne (by omega), stp_ne (by omega), stp_ne (by omega), stp_ne (by omega), stp_ne (by omega), stp_ne (by omega), stp_ne (by omega), stp_ne (by omega), stp_ne (by omega)]
    exact this
  · rw [List.getElem?_append_right (by omega)] at hq
    have e : i = M.length := by
      by_cases y : i = M.length
      · exact y
      · rw [List.getElem?_eq_none (by simp; omega)] at hq; cases hq
    subst e
    rw [Nat.sub_self] at hq
    injection hq with hq
    subst hq
    refine ⟨?_, ?_, ?_, ?_⟩
    · rw [stp_ne (by omega), stp_ne (by omega), stp_ne (by omega), stp_ne (by omega), stp_eq]
    · rw [stp_ne (by omega), stp_ne (by omega), stp_ne (by omega), stp_eq]
    · rw [stp_ne (by omega), stp_ne (by omega), stp_eq]
    · rw [stp_ne (by omega), stp_eq]
theorem AR_keep {h h' : HF} {M : List (Nat × Nat × Nat)} (e : ∀ c i, 100 ≤ c ∧ c ≤ 103 → h' c i = h c i) (hM : ARw h tb n ar M) : ARw h' tb n ar M := fun i q hq => by
  rw [e _ _ (by omega), e _ _ (by omega), e _ _ (by omega), e _ _ (by omega)]
  exact hM i q hq
theorem sort3 (hA : 117 ≤ A) (hk : kt A = 0 + 3) (hw : WF n ar tb) {o a e : Nat} (ho : o < ar.length) (ha : a < rwN n (ar.getD o 0)) {k : Int → HF → RO} : ∀ (m b N : Nat) (h : HF) (M : List (Nat × Nat × Nat)), b + m = clN n (ar.getD o 0) → m + 1 ≤ N → (M ++ flF (gB tb n ar e o a) m b).length ≤ 196 → h 98 2 = (A : Int) → RepC h A n ar tb → h 98 14 = (M.length : Int) → ARw h tb n ar M → ∃ h', LX7_sortCellsOf_17 F 98 (o : Int) (e : Int) (a : Int) k N (b : Int) h = k (a : Int) h' ∧ h' 98 14 = ((M ++ flF (gB tb n ar e o a) m b).length : Int) ∧ ARw h' tb n ar (M ++ flF (gB tb n ar e o a) m b) ∧ ∀ c i, (c < 100 ∨ 103 < c) → (c ≠ 98 ∨ i ≠ 14) → h' c i = h c i := by
  have hn := hw.1
  have hl := hw.2.1
  have rl := rw_le (n := n) (r := ar.getD o 0) hn.1
  intro m
  induction m with
  | zero =>
    intro b N h M hb hN hlen h2 hr h14 hM
    obtain ⟨N, rfl⟩ : ∃ M, N = M + 1 := ⟨N - 1, by omega⟩
    refine ⟨h, ?_, by simpa [flF] using h14, by simpa [flF] using hM, fun _ _ _ _ => rfl⟩
    rw [LX7_sortCellsOf_17, zgd_at h2, cols_eq hk (by omega) hr.1 (hr.2.2.2.1 o ho), zbd_some, if_neg (by omega)]
  | succ m ih =>
    intro b N h M hb hN hlen h2 hr h14 hM
    obtain ⟨N, rfl⟩ : ∃ M, N = M + 1 := ⟨N - 1, by omega⟩
    have vb := (vl_eq hw ho (show a < n by omega) (show b < n by omega)).2
    rw [LX7_sortCellsOf_17, zgd_at h2, cols_eq hk (by omega) hr.1 (hr.2.2.2.1 o ho), zbd_some, if_pos (by omega), zgd_at h2, cval hk hw hr ho (by omega) (by omega), zbd_some, zmax_N, zmax_N]
    simp only [zjn_eq, zlet_eq, zgf_eq, zpf_eq]
    rw [wr_s (by omega)]
    rw [flF_s] at hlen ⊢
    rw [← List.append_assoc] at hlen ⊢
    by_cases z : mxC tb n ar o a b = e
    · have eg : gB tb n ar e o a b = [(o, a, b)] := if_pos z
      rw [eg] at hlen ⊢
      have l1 : M.length < 196 := by simp only [List.length_append, List.length_cons, List.length_nil] at hlen; omega
      have z' : ((max (vl tb n ar o a b) (max a b) : Nat) : Int) = (e : Int) := by rw [show max (vl tb n ar o a b) (max a b) = e from z]
      rw [if_pos z', h14, wt10x (by omega) l1, stp_ne (by omega), h14, wt10x (by omega) l1, stp_ne (by omega), stp_ne (by omega), h14, wt10x (by omega) l1, stp_ne (by omega), stp_ne (by omega), stp_ne (by omega), h14, wt10x (by omega) l1, stp_ne (by omega), stp_ne (by omega), stp_ne (by omega), stp_ne (by omega), h14, wr_s (by omega)]
      obtain ⟨h', x1, x2, x3, x4⟩ := ih (b + 1) N (stp (stp (stp (stp (stp h 100 M.length (o : Int)) 101 M.length (a : Int)) 102 M.length (b : Int)) 103 M.length (vl tb n ar o a b : Int)) 98 14 ((M.length + 1 : Nat) : Int)) (M ++ [(o, a, b)]) (by omega) (by omega) hlen (by rw [stp_ne (by omega), stp_ne (by omega), stp_ne (by omega), stp_ne (by omega), stp_ne (by omega)]; exact h2) (RepC_keep (fun i k hi => by rw [stp_ne (by omega), stp_ne (by omega), stp_ne (by omega), stp_ne (by omega), stp_ne (by omega)]) hr) (by rw [stp_eq, List.length_append]; rfl) (AR_push hM)
      exact ⟨h', x1, x2, x3, fun c i y w => by rw [x4 c i y w, stp_ne w, stp_ne (by omega), stp_ne (by omega), stp_ne (by omega), stp_ne (by omega)]⟩
    · have eg : gB tb n ar e o a b = [] := if_neg z
      rw [eg, List.append_nil] at hlen ⊢
      have z' : ¬ ((max (vl tb n ar o a b) (max a b) : Nat) : Int) = (e : Int) := fun y => z (by unfold mxC; omega)
      rw [if_neg z']
      exact ih (b + 1) N h M (by omega) (by omega) hlen h2 hr h14 hM
theorem sort2 (hF : 9 ≤ F) (hA : 117 ≤ A) (hk : kt A = 0 + 3) (hw : WF n ar tb) {o e : Nat} (ho : o < ar.length) {k : HF → RO} : ∀ (m a N : Nat) (h : HF) (M : List (Nat × Nat × Nat)), a + m = rwN n (ar.getD o 0) → m + 1 ≤ N → (M ++ flF (gA tb n ar e o) m a).length ≤ 196 → h 98 2 = (A : Int) → RepC h A n ar tb → h 98 14 = (M.length : Int) → ARw h tb n ar M → ∃ h', LX7_sortCellsOf_2 F 98 (o : Int) (e : Int) k N (a : Int) h = k h' ∧ h' 98 14 = ((M ++ flF (gA tb n ar e o) m a).length : Int) ∧ ARw h' tb n ar (M ++ flF (gA tb n ar e o) m a) ∧ ∀ c i, (c < 100 ∨ 103 < c) → (c ≠ 98 ∨ i ≠ 14) → h' c i = h c i := by
  have hn := hw.1
  have hl := hw.2.1
  have rl := rw_le (n := n) (r := ar.getD o 0) hn.1
  intro m
  induction m with
  | zero =>
    intro a N h M ha hN hlen h2 hr h14 hM
    obtain ⟨N, rfl⟩ : ∃ M, N = M + 1 := ⟨N - 1, by omega⟩
    refine ⟨h, ?_, by simpa [flF] using h14, by simpa [flF] using hM, fun _ _ _ _ => rfl⟩
    rw [LX7_sortCellsOf_2, zgd_at h2, rows_eq hk (by omega) hr.1 (hr.2.2.2.1 o ho), zbd_some, if_neg (by omega)]
  | succ m ih =>
    intro a N h M ha hN hlen h2 hr h14 hM
    obtain ⟨N, rfl⟩ : ∃ M, N = M + 1 := ⟨N - 1, by omega⟩
    rw [flF_s, ← List.append_assoc] at hlen ⊢
    rw [LX7_sortCellsOf_2, zgd_at h2, rows_eq hk (by omega) hr.1 (hr.2.2.2.1 o ho), zbd_some, if_pos (by omega), zjn_eq]
    obtain ⟨h1, x1, x2, x3, x4⟩ := sort3 (F := F) (e := e) hA hk hw ho (show a < rwN n (ar.getD o 0) by omega) (k := fun (x116_3 : Int) (h : HF) => zlet (wr (x116_3 + 1)) fun x3 => LX7_sortCellsOf_2 F 98 (o : Int) (e : Int) k N x3 h) (clN n (ar.getD o 0)) 0 F h M (by omega) (by omega) (by rw [List.length_append] at hlen; exact Nat.le_trans (Nat.le_add_right _ _) hlen) h2 hr h14 hM
    obtain ⟨h', y1, y2, y3, y4⟩ := ih (a + 1) N h1 (M ++ gA tb n ar e o a) (by omega) (by omega) hlen (by rw [x4 _ _ (by omega) (by omega)]; exact h2) (RepC_keep (fun i k hi => x4 _ _ (by omega) (by omega)) hr) x2 x3
    refine ⟨h', ?_, y2, y3, fun c i z w => by rw [y4 c i z w, x4 c i z w]⟩
    refine x1.trans ?_
    rw [zlet_eq, wr_s (by omega)]
    exact y1
theorem sortOf_eq {h : HF} {M : List (Nat × Nat × Nat)} (hF : 9 ≤ F) (hA : 117 ≤ A) (hk : kt A = 0 + 3) (hw : WF n ar tb) {o e : Nat} (ho : o < ar.length) (hlen : (M ++ gO tb n ar e o).length ≤ 196) (h2 : h 98 2 = (A : Int)) (hr : RepC h A n ar tb) (h14 : h 98 14 = (M.length : Int)) (hM : ARw h tb n ar M) : ∃ h', fX7_sortCellsOf F 98 (o : Int) (e : Int) h = some (0, h') ∧ h' 98 14 = ((M ++ gO tb n ar e o).length : Int) ∧ ARw h' tb n ar (M ++ gO tb n ar e o) ∧ ∀ c i, (c < 100 ∨ 103 < c) → (c ≠ 98 ∨ i ≠ 14) → h' c i = h c i := by
  have hn := hw.1
  have rl := rw_le (n := n) (r := ar.getD o 0) hn.1
  obtain ⟨h', x1, x2, x3, x4⟩ := sort2 (F := F) (e := e) hF hA hk hw ho (k := fun h => some (0, h)) (rwN n (ar.getD o 0)) 0 F h M (by omega) (by omega) hlen h2 hr h14 hM
  refine ⟨h', ?_, x2, x3, x4⟩
  unfold fX7_sortCellsOf
  rw [zjn_eq]
  exact x1
theorem sort1 (hF : 9 ≤ F) (hA : 117 ≤ A) (hk : kt A = 0 + 3) (hw : WF n ar tb) {e : Nat} {k : Int → HF → RO} : ∀ (m o N : Nat) (h : HF) (M : List (Nat × Nat × Nat)), o + m = ar.length → m + 1 ≤ N → (M ++ flF (gO tb n ar e) m o).length ≤ 196 → h 98 2 = (A : Int) → RepC h A n ar tb → h 98 14 = (M.length : Int) → ARw h tb n ar M → ∃ h', LX7_sortCells_20 F 98 (e : Int) k N (o : Int) h = k (e : Int) h' ∧ h' 98 14 = ((M ++ flF (gO tb n ar e) m o).length : Int) ∧ ARw h' tb n ar (M ++ flF (gO tb n ar e) m o) ∧ ∀ c i, (c < 100 ∨ 103 < c) → (c ≠ 98 ∨ i ≠ 14) → h' c i = h c i := by
  have hl := hw.2.1
  intro m
  induction m with
  | zero =>
    intro o N h M ho hN hlen h2 hr h14 hM
    obtain ⟨N, rfl⟩ : ∃ M, N = M + 1 := ⟨N - 1, by omega⟩
    refine ⟨h, ?_, by simpa [flF] using h14, by simpa [flF] using hM, fun _ _ _ _ => rfl⟩
    rw [LX7_sortCells_20, zgd_at h2, zgf_eq, hr.2.1, if_neg (by omega)]
  | succ m ih =>
    intro o N h M ho hN hlen h2 hr h14 hM
    obtain ⟨N, rfl⟩ : ∃ M, N = M + 1 := ⟨N - 1, by omega⟩
    rw [flF_s, ← List.append_assoc] at hlen ⊢
    obtain ⟨h1, x1, x2, x3, x4⟩ := sortOf_eq (F := F) (e := e) hF hA hk hw (show o < ar.length by omega) (by rw [List.length_append] at hlen; exact Nat.le_trans (Nat.le_add_right _ _) hlen) h2 hr h14 hM
    rw [LX7_sortCells_20, zgd_at h2, zgf_eq, hr.2.1, if_pos (by omega), x1, zbd_some, zlet_eq, wr_s (by omega)]
    obtain ⟨h', y1, y2, y3, y4⟩ := ih (o + 1) N h1 (M ++ gO tb n ar e o) (by omega) (by omega) hlen (by rw [x4 _ _ (by omega) (by omega)]; exact h2) (RepC_keep (fun i k hi => x4 _ _ (by omega) (by omega)) hr) x2 x3
    exact ⟨h', y1, y2, y3, fun c i z w => by rw [y4 c i z w, x4 c i z w]⟩
/-- the rows behind sorting: the cells, and where those of each greatest element end -/
def SRT (h : HF) (tb : Nat → Nat → Int) (n : Nat) (ar : List Nat) (E : Nat) : Prop := ARw h tb n ar (flF (gE tb n ar) E 0) ∧ ∀ e, e < E → h 104 e = ((flF (gE tb n ar) (e + 1) 0).length : Int)
theorem sort0 (hF : 9 ≤ F) (hA : 117 ≤ A) (hk : kt A = 0 + 3) (hw : WF n ar tb) {k : HF → RO} : ∀ (m e N : Nat) (h : HF), e + m = n → m + 1 ≤ N → h 98 2 = (A : Int) → RepC h A n ar tb → h 98 14 = ((flF (gE tb n ar) e 0).length : Int) → SRT h tb n ar e → ∃ h', LX7_sortCells_7 F 98 k N (e : Int) h = k h' ∧ SRT h' tb n ar n ∧ ∀ c i, (c < 100 ∨ 104 < c) → (c ≠ 98 ∨ i ≠ 14) → h' c i = h c i := by
  have hn := hw.1
  have hl := hw.2.1
  have tot : ∀ m, (flF (gE tb n ar) m 0).length ≤ 196 := fun m => by
    have h1 := gE_len (tb := tb) (n := n) hw.2.2.1 m
    have h2 := sto_le hn.2 hw.2.2.1 ar.length (Nat.le_refl _)
    omega
  intro m
  induction m with
  | zero =>
    intro e N h he hN h2 hr h14 hS
    obtain ⟨N, rfl⟩ : ∃ M, N = M + 1 := ⟨N - 1, by omega⟩
    have en : e = n := by omega
    refine ⟨h, ?_, en ▸ hS, fun _ _ _ _ => rfl⟩
    rw [LX7_sortCells_7, zgd_at h2, zgf_eq, hr.1, if_neg (by omega)]
  | succ m ih =>
    intro e N h he hN h2 hr h14 hS
    obtain ⟨N, rfl⟩ : ∃ M, N = M + 1 := ⟨N - 1, by omega⟩
    have sn1 : flF (gE tb n ar) (e + 1) 0 = flF (gE tb n ar) e 0 ++ gE tb n ar e := by rw [flF_snoc, Nat.zero_add]
    rw [LX7_sortCells_7, zgd_at h2, zgf_eq, hr.1, if_pos (by omega), zjn_eq]
    obtain ⟨h1, x1, x2, x3, x4⟩ := sort1 (F := F) (e := e) hF hA hk hw (k := fun (x43_1 : Int) (h : HF) => zgf h 98 14 fun x3 => zwr h (98 + 6) x43_1 x3 fun h => zlet (wr (x43_1 + 1)) fun x4 => LX7_sortCells_7 F 98 k N x4 h) ar.length 0 F h (flF (gE tb n ar) e 0) (by omega) (by omega) (by have := tot (e + 1); rw [sn1] at this; exact this) h2 hr h14 hS.1
    have e5 : flF (gE tb n ar) e 0 ++ flF (gO tb n ar e) ar.length 0 = flF (gE tb n ar) (e + 1) 0 := by rw [sn1]; rfl
    rw [e5] at x2 x3
    obtain ⟨h', y1, y2, y3⟩ := ih (e + 1) N (stp h1 104 e ((flF (gE tb n ar) (e + 1) 0).length : Int)) (by omega) (by omega) (by rw [stp_ne (by omega), x4 _ _ (by omega) (by omega)]; exact h2) (RepC_keep (fun i k hi => by rw [stp_ne (by omega), x4 _ _ (by omega) (by omega)]) hr) (by rw [stp_ne (by omega)]; exact x2) ⟨AR_keep (fun c i z => stp_ne (by omega)) x3, fun e' he' => by
      by_cases z : e' = e
      · subst z; exact stp_eq _ _ _ _
      · rw [stp_ne (by omega), x4 _ _ (by omega) (by omega)]; exact hS.2 e' (by omega)⟩
    refine ⟨h', ?_, y2, fun c i z w => by rw [y3 c i z w, stp_ne (by omega), x4 c i (by omega) w]⟩
    refine x1.trans ?_
    rw [zgf_eq, x2, wt104 (by omega), zlet_eq, wr_s (by omega)]
    exact y1
theorem sortCells_eq {h : HF} (hF : 9 ≤ F) (hA : 117 ≤ A) (hk : kt A = 0 + 3) (hw : WF n ar tb) (h2 : h 98 2 = (A : Int)) (hr : RepC h A n ar tb) : ∃ h', fX7_sortCells F 98 h = some (0, h') ∧ SRT h' tb n ar n ∧ ∀ c i, (c < 100 ∨ 104 < c) → (c ≠ 98 ∨ i ≠ 14) → h' c i = h c i := by
  have hn := hw.1
  obtain ⟨h', x1, x2, x3⟩ := sort0 (F := F) hF hA hk hw (k := fun h => some (0, h)) n 0 F (stp h 98 14 0) (by omega) (by omega) (by rw [stp_ne (by omega)]; exact h2) (RepC_keep (fun i k hi => stp_ne (by omega)) hr) (stp_eq _ _ _ _) ⟨fun i q hq => (by cases hq), fun e he => absurd he (by omega)⟩
  refine ⟨h', ?_, x2, fun c i z w => by rw [x3 c i z w, stp_ne w]⟩
  unfold fX7_sortCells
  rw [zpf_eq, zjn_eq]
  exact x1
end SC
