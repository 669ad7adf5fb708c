/-! the next table, on both sides -/
def avT (B : Nat) (L : List Nat) : Nat → Option (List Nat)
  | 0 => none
  | v + 1 => if L.getD v 0 + 1 < B then some (L.set v (L.getD v 0 + 1)) else avT B (L.set v 0) v
theorem avT_s {B : Nat} {L : List Nat} {v : Nat} : avT B L (v + 1) = if L.getD v 0 + 1 < B then some (L.set v (L.getD v 0 + 1)) else avT B (L.set v 0) v := by rw [avT]
theorem nm_set {B : Nat} : ∀ (L : List Nat) (v x : Nat), v < L.length → nm B (L.set v x) + L.getD v 0 * B ^ (L.length - 1 - v) = nm B L + x * B ^ (L.length - 1 - v) := by
  intro L
  induction L with
  | nil => intro v x h; exact absurd h (by simp)
  | cons a L ih =>
    intro v x h
    cases v with
    | zero =>
      rw [List.set_cons_zero, nm, nm, List.length_cons, show L.length + 1 - 1 - 0 = L.length by omega]
      show x * B ^ L.length + nm B L + a * B ^ L.length = _
      omega
    | succ v =>
      have := ih v x (by simpa using h)
      rw [List.set_cons_succ, nm, nm, List.length_set, List.length_cons, List.getD_cons_succ, show L.length + 1 - 1 - (v + 1) = L.length - 1 - v by omega]
      omega
theorem set_lt {B v x : Nat} {L : List Nat} (hL : ∀ y ∈ L, y < B) (hx : x < B) : ∀ y ∈ L.set v x, y < B := fun y hy => by
  rcases List.mem_or_eq_of_mem_set hy with w | w
  · exact hL y w
  · rw [w]; exact hx
theorem avT_nm {B : Nat} (hB : 1 ≤ B) : ∀ (v : Nat) (L : List Nat), v ≤ L.length → (∀ y ∈ L, y < B) → (∀ L', avT B L v = some L' → L'.length = L.length ∧ (∀ y ∈ L', y < B) ∧ nm B L' = nm B L + B ^ (L.length - v)) ∧ (avT B L v = none → B ^ L.length ≤ nm B L + B ^ (L.length - v)) := by
  intro v
  induction v with
  | zero => intro L _ _; exact ⟨fun L' e => absurd e (by simp [avT]), fun _ => by rw [Nat.sub_zero]; omega⟩
  | succ v ih =>
    intro L hv hL
    rw [avT_s]
    have e1 : L.length - (v + 1) = L.length - 1 - v := by omega
    have e2 : B ^ (L.length - v) = B * B ^ (L.length - 1 - v) := by rw [show L.length - v = (L.length - 1 - v) + 1 by omega, Nat.pow_succ, Nat.mul_comm]
    have hx := hL _ (mem_gd (l := L) (i := v) (by omega))
    by_cases q : L.getD v 0 + 1 < B
    · rw [if_pos q]
      refine ⟨fun L' e => ?_, fun e => absurd e (by simp)⟩
      obtain rfl := Option.some.inj e
      have := nm_set (B := B) L v (L.getD v 0 + 1) (by omega)
      rw [Nat.succ_mul] at this
      exact ⟨List.length_set, set_lt hL q, by rw [e1]; omega⟩
    · rw [if_neg q]
      have s0 := nm_set (B := B) L v 0 (by omega)
      rw [Nat.zero_mul, Nat.add_zero] at s0
      have s1 : L.getD v 0 * B ^ (L.length - 1 - v) + B ^ (L.length - 1 - v) = B * B ^ (L.length - 1 - v) := by rw [← Nat.succ_mul, show Nat.succ (L.getD v 0) = B by omega]
      obtain ⟨i1, i2⟩ := ih (L.set v 0) (by rw [List.length_set]; omega) (set_lt hL (by omega))
      rw [List.length_set] at i1 i2
      refine ⟨fun L' e => ?_, fun e => ?_⟩
      · obtain ⟨j1, j2, j3⟩ := i1 L' e
        exact ⟨j1, j2, by rw [j3, e1, e2]; omega⟩
      · have := i2 e
        rw [e2] at this
        rw [e1]; omega
section AV
variable {F n : Nat} {ar : List Nat}
/-- the class's loop -/
theorem avT_c {k61 : HF → RO} {k36 : Int → HF → RO} : ∀ (v N : Nat) (h : HF) (L : List Nat), v ≤ L.length → L.length ≤ 196 → (∀ y ∈ L, y < n) → n ≤ 7 → v + 1 ≤ N → h 6 0 = (n : Int) → LN h 9 L → (∃ (h' : HF) (L1 : List Nat) (w : Nat), LX8_advance_17 F 6 k61 k36 N ((v : Int) - 1) h = k36 (w : Int) h' ∧ w < L.length ∧ LN h' 9 L1 ∧ L1.length = L.length ∧ L1.getD w 0 < n ∧ avT n L v = some (L1.set w (L1.getD w 0 + 1)) ∧ ∀ c i, c ≠ 9 → h' c i = h c i) ∨ (∃ h' : HF, LX8_advance_17 F 6 k61 k36 N ((v : Int) - 1) h = k61 h' ∧ avT n L v = none ∧ ∀ c i, c ≠ 9 → h' c i = h c i) := by
  have k9 : kl 9 = 196 := by decide +kernel
  intro v
  induction v with
  | zero =>
    intro N h L hv hl hL hn hN h0 hX
    obtain ⟨N, rfl⟩ : ∃ M, N = M + 1 := ⟨N - 1, by omega⟩
    exact .inr ⟨h, by rw [LX8_advance_17, if_pos (by omega)], rfl, fun _ _ _ => rfl⟩
  | succ v ih =>
    intro N h L hv hl hL hn hN h0 hX
    obtain ⟨N, rfl⟩ : ∃ M, N = M + 1 := ⟨N - 1, by omega⟩
    have hx := hL _ (mem_gd (l := L) (i := v) (by omega))
    have rd : ∀ (h : HF) (f : Int → RO), zrd h (6 + 3) (v : Int) f = f (h 9 v) := fun h f => by rw [zrd_ok (a := 6 + 3) ⟨by omega, by rw [show kl (6 + 3) = 196 from k9]; omega⟩, Int.toNat_natCast]
    have wt : ∀ (h : HF) (x : Int) (f : HF → RO), zwr h (6 + 3) (v : Int) x f = f (stp h 9 v x) := fun h x f => by rw [zwr_ok (a := 6 + 3) ⟨by omega, by rw [show kl (6 + 3) = 196 from k9]; omega⟩, Int.toNat_natCast]
    have st : LX8_advance_17 F 6 k61 k36 (N + 1) (((v + 1 : Nat) : Int) - 1) h = if L.getD v 0 + 1 < n then k36 (v : Int) h else LX8_advance_17 F 6 k61 k36 N ((v : Int) - 1) (stp h 9 v 0) := by
      rw [LX8_advance_17, if_neg (by omega), show ((v + 1 : Nat) : Int) - 1 = (v : Int) by omega, rd, hX v (by omega), zgf_eq, h0, wr_id ⟨by omega, by omega⟩]
      by_cases q : L.getD v 0 + 1 < n
      · rw [if_pos (by omega), if_pos q]
      · rw [if_neg (by omega), if_neg q, wt, zlet_eq, wr_id ⟨by omega, by omega⟩]; rfl
    rw [st, avT_s]
    by_cases q : L.getD v 0 + 1 < n
    · rw [if_pos q, if_pos q]
      exact .inl ⟨h, L, v, rfl, by omega, hX, rfl, hx, rfl, fun _ _ _ => rfl⟩
    · rw [if_neg q, if_neg q]
      rcases ih N (stp h 9 v 0) (L.set v 0) (by rw [List.length_set]; omega) (by rw [List.length_set]; omega) (set_lt hL (by omega)) hn (by omega) (by rw [stp_ne (by omega)]; exact h0) (LN_set (v := 0) (by omega) hX) with ⟨h', L1, w, a1, a2, a3, a4, a5, a6, a7⟩ | ⟨h', a1, a2, a3⟩
      · rw [List.length_set] at a2 a4
        exact .inl ⟨h', L1, w, a1, a2, a3, a4, a5, a6, fun c i hc => (a7 c i hc).trans (stp_ne (by omega))⟩
      · exact .inr ⟨h', a1, a2, fun c i hc => (a3 c i hc).trans (stp_ne (by omega))⟩
/-- the class's draft as a line -/
theorem RepC_line {h : HF} {L : List Nat} (h2 : ∀ o, o < ar.length → ar.getD o 0 ≤ 2) (hl : L.length = sto n ar ar.length) (hr : RepC h 6 n ar (tbL n ar L)) : LN h 9 L := fun i hi => by
  obtain ⟨o, k, a, b, rfl⟩ := spl (n := n) ar.length i (Nat.le_refl _) (by omega)
  exact hr.2.2.2.2.2 o a k b
theorem RepC_lineR {h h' : HF} {L L' : List Nat} (hl : L'.length = sto n ar ar.length) (hr : RepC h 6 n ar (tbL n ar L)) (e : ∀ c i, c ≠ 9 → h' c i = h c i) (hL : LN h' 9 L') : RepC h' 6 n ar (tbL n ar L') := by
  refine ⟨by rw [e _ _ (by omega)]; exact hr.1, by rw [e _ _ (by omega)]; exact hr.2.1, by rw [e _ _ (by omega)]; exact hr.2.2.1, fun o ho => by rw [e _ _ (by omega)]; exact hr.2.2.2.1 o ho, fun o ho => by rw [e _ _ (by omega)]; exact hr.2.2.2.2.1 o ho, fun o ho k hk => ?_⟩
  have := sto_tot (n := n) ho hk
  exact hL _ (by omega)
/-- where the search goes on when nothing is left that begins as this table does -/
def jmp (n N c s : Nat) : Nat := (nm n ((dg n N c).take s) + 1) * n ^ (N - s)
theorem advance_c {c s u0 : Nat} {h : HF} (hF : 200 ≤ F) (hn : 1 ≤ n ∧ n ≤ 7) (hl : ar.length ≤ 4) (h2 : ∀ o, o < ar.length → ar.getD o 0 ≤ 2) (hc : c < n ^ sto n ar ar.length) (hs : s ≤ sto n ar ar.length) (hr : RepC h 6 n ar (TB n ar c)) : ∃ h', (∀ x i, x ≠ 9 → h' x i = h x i) ∧ ((jmp n (sto n ar ar.length) c s < n ^ sto n ar ar.length ∧ fX8_advance F u0 6 ((s : Int) - 1) h = some (1, h') ∧ RepC h' 6 n ar (TB n ar (jmp n (sto n ar ar.length) c s))) ∨ (n ^ sto n ar ar.length ≤ jmp n (sto n ar ar.length) c s ∧ fX8_advance F u0 6 ((s : Int) - 1) h = some (0, h'))) := by
  have k9 : kl 9 = 196 := by decide +kernel
  have kt6 : kt 6 = 0 + 3 := by decide +kernel
  have hw := TB_WF hn hl h2 hc
  have st := sto_le hn.2 h2 ar.length (Nat.le_refl _)
  have ll : (dg n (sto n ar ar.length) c).length = sto n ar ar.length := dg_len _ _
  have lv := dg_lt hn.1 _ _ hc
  have hL := RepC_line h2 ll hr
  obtain ⟨L, hLe⟩ : ∃ L, L = dg n (sto n ar ar.length) c := ⟨_, rfl⟩
  obtain ⟨N, hN⟩ : ∃ N, N = sto n ar ar.length := ⟨_, rfl⟩
  have hr' : RepC h 6 n ar (tbL n ar L) := by rw [hLe]; exact hr
  unfold jmp
  rw [← hN] at hLe
  rw [← hN] at hs ll lv hc st hL
  rw [← hLe] at ll lv hL
  rw [← hN, ← hLe]
  obtain ⟨L0, hL0⟩ : ∃ L0, L0 = L.take s ++ List.replicate (N - s) 0 := ⟨_, rfl⟩
  have tl : (L.take s).length = s := by rw [List.length_take]; omega
  have l0 : L0.length = N := by rw [hL0, List.length_append, tl, List.length_replicate]; omega
  have v0 : ∀ y ∈ L0, y < n := fun y hy => by
    rw [hL0] at hy
    rcases List.mem_append.mp hy with w | w
    · exact lv y (List.mem_of_mem_take w)
    · rw [List.eq_of_mem_replicate w]; exact hn.1
  have n0 : nm n L0 = nm n (L.take s) * n ^ (N - s) := by rw [hL0, nm_app, nm_zero, List.length_replicate, Nat.add_zero]
  have hX : LN (fil h 9 s (N - s) 0) 9 L0 := fun i hi => by
    rw [hL0]
    by_cases q : i < s
    · rw [fil_off (by omega), gd_left (by omega), hL i (by omega), List.getD_eq_getElem?_getD, List.getD_eq_getElem?_getD, List.getElem?_take, if_pos q]
    · rw [fil_in (by omega), show i = (L.take s).length + (i - s) by omega, gd_right, List.getD_eq_getElem?_getD, List.getElem?_replicate, if_pos (by omega)]; rfl
  have f0 : ∀ x i, x ≠ 9 → fil h 9 s (N - s) 0 x i = h x i := fun x i hx => fil_off (by omega)
  have go : fX8_advance F u0 6 ((s : Int) - 1) h = LX8_advance_17 F 6 (fun h => zrz 0 h) (fun (x : Int) (h : HF) => zrd h (6 + 3) x fun x3 => zwr h (6 + 3) x (wr (x3 + 1)) fun h => zrz 1 h) F ((s : Int) - 1) (fil h 9 s (N - s) 0) := by
    unfold fX8_advance
    have cc : fX0_cellCount F 6 h = some ((N : Int), h) := by rw [hN]; exact cellCount_eq kt6 hw hr
    have ff : fJ7_fill_fda19 F (6 + 3) (s : Int) (N : Int) 0 h = some (0, fil h 9 s (N - s) 0) := fill_eq hs (by rw [show kl (6 + 3) = 196 from k9]; omega) (by omega) (by omega)
    rw [cc, zbd_some, show (s : Int) - 1 + 1 = (s : Int) by omega, wr_id ⟨by omega, by omega⟩, ff, zbd_some, zjn_eq, zjn_eq]
  obtain ⟨A1, A2⟩ := avT_nm hn.1 s L0 (by omega) v0
  rw [l0] at A1 A2
  have jj : nm n L0 + n ^ (N - s) = (nm n (L.take s) + 1) * n ^ (N - s) := by rw [n0, Nat.succ_mul]
  rw [jj] at A1 A2
  rcases avT_c (F := F) (n := n) (k61 := fun h => zrz 0 h) (k36 := fun (x : Int) (h : HF) => zrd h (6 + 3) x fun x3 => zwr h (6 + 3) x (wr (x3 + 1)) fun h => zrz 1 h) s F (fil h 9 s (N - s) 0) L0 (by omega) (by omega) v0 hn.2 (by omega) (by rw [f0 _ _ (by omega)]; exact hr.1) hX with ⟨h', L1, w, a1, a2, a3, a4, a5, a6, a7⟩ | ⟨h', a1, a2, a3⟩
  · obtain ⟨b1, b2, b3⟩ := A1 _ a6
    have b4 := nm_lt (B := n) _ b2
    rw [b1, b3] at b4
    refine ⟨stp h' 9 w ((L1.getD w 0 + 1 : Nat) : Int), fun x i hx => by rw [stp_ne (by omega), a7 x i hx, f0 x i hx], .inl ⟨b4, ?_, ?_⟩⟩
    · rw [go]
      refine a1.trans ?_
      show (zrd h' (6 + 3) (w : Int) fun x3 => zwr h' (6 + 3) (w : Int) (wr (x3 + 1)) fun h => zrz 1 h) = _
      rw [zrd_ok (a := 6 + 3) ⟨by omega, by rw [show kl (6 + 3) = 196 from k9]; omega⟩, Int.toNat_natCast, show h' (6 + 3) w = _ from a3 w (by omega), wr_id ⟨by omega, by omega⟩, zwr_ok (a := 6 + 3) ⟨by omega, by rw [show kl (6 + 3) = 196 from k9]; omega⟩, Int.toNat_natCast]
      rfl
    · have e : TB n ar ((nm n (L.take s) + 1) * n ^ (N - s)) = tbL n ar (L1.set w (L1.getD w 0 + 1)) := by
        unfold TB
        rw [← b3, ← hN]
        have := dg_nm (B := n) hn.1 _ b2
        rw [b1] at this
        rw [this]
      rw [e]
      exact RepC_lineR (by omega) hr' (fun x i hx => by rw [stp_ne (by omega), a7 x i hx, f0 x i hx]) (LN_set (by omega) a3)
  · exact ⟨h', fun x i hx => by rw [a3 x i hx, f0 x i hx], .inr ⟨A2 a2, by rw [go]; exact a1⟩⟩
end AV
