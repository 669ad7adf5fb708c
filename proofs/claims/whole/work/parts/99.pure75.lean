/-! trying laws: one same, on both sides -/
theorem k92 : kl 92 = 3 := by decide +kernel
theorem k93 : kl 93 = 80 := by decide +kernel
theorem rd92 {h : HF} {i : Nat} {f : Int → RO} (hi : i < 3) : zrd h (91 + 1) (i : Int) f = f (h 92 i) := by rw [zrd_ok (a := 91 + 1) ⟨by omega, by rw [show kl (91 + 1) = 3 from k92]; omega⟩, Int.toNat_natCast]
theorem wt92 {h : HF} {i : Nat} {v : Int} {f : HF → RO} (hi : i < 3) : zwr h (91 + 1) (i : Int) v f = f (stp h 92 i v) := by rw [zwr_ok (a := 91 + 1) ⟨by omega, by rw [show kl (91 + 1) = 3 from k92]; omega⟩, Int.toNat_natCast]
theorem rd93 {h : HF} {i : Nat} {f : Int → RO} (hi : i < 80) : zrd h (91 + 2) (i : Int) f = f (h 93 i) := by rw [zrd_ok (a := 91 + 2) ⟨by omega, by rw [show kl (91 + 2) = 80 from k93]; omega⟩, Int.toNat_natCast]
theorem wt93 {h : HF} {i : Nat} {v : Int} {f : HF → RO} (hi : i < 80) : zwr h (91 + 2) (i : Int) v f = f (stp h 93 i v) := by rw [zwr_ok (a := 91 + 2) ⟨by omega, by rw [show kl (91 + 2) = 80 from k93]; omega⟩, Int.toNat_natCast]
/-- the rows of terms that a list has, on either side -/
def RowC (h : HF) (L T : Nat) (sg mn se : Nat → Nat) : Prop := ∀ t, t < T → h (L + 5) t = (sg t : Int) ∧ h (L + 6) t = (mn t : Int) ∧ (mn t = 2 → h (L + 7) t = (se t : Int))
def RowM (h : HF) (i T : Nat) (sg mn se : Nat → Nat) : Prop := ∀ t, t < T → h 194 (80 * i + t) = (sg t : Int) ∧ h 195 (80 * i + t) = (mn t : Int) ∧ (1 ≤ mn t → h 196 (80 * i + t) = ((t + 1 : Nat) : Int)) ∧ (mn t = 2 → h 197 (80 * i + t) = (se t : Int))
def RowP (T : Nat) (sg mn : Nat → Nat) : Prop := ∀ t, t < T → sg t < 7 ∧ (sg t < 3 → mn t = 0) ∧ mn t ≤ 2
/-- all terms of a range are terms -/
def Sub (sg mn se : Nat → Nat) (lo hi : Nat) : Prop := ∀ t, lo ≤ t → t < hi → ∃ D e, D ≤ 8 ∧ e ≤ hi ∧ TT sg mn se D t e
theorem ix80 {i t : Nat} (hi : i < 4) (ht : t < 81) : wr (wr (80 * (i : Int)) + (t : Int)) = ((80 * i + t : Nat) : Int) := by rw [wr_id (x := 80 * (i : Int)) ⟨by omega, by omega⟩, wr_id ⟨by omega, by omega⟩]; omega
theorem ix40 {i t : Nat} (hi : i < 4) (ht : t < 41) : wr (wr (40 * (i : Int)) + (t : Int)) = ((40 * i + t : Nat) : Int) := by rw [wr_id (x := 40 * (i : Int)) ⟨by omega, by omega⟩, wr_id ⟨by omega, by omega⟩]; omega
theorem ix7 {i t : Nat} (hi : i < 4) (ht : t < 8) : wr (wr (7 * (i : Int)) + (t : Int)) = ((7 * i + t : Nat) : Int) := by rw [wr_id (x := 7 * (i : Int)) ⟨by omega, by omega⟩, wr_id ⟨by omega, by omega⟩]; omega
theorem ev_s {sg mn se g : Nat → Nat} {V : Nat → Nat → Nat → Nat} {D t : Nat} : ev sg mn se g V (D + 1) t = if sg t < 3 then g (sg t) else V (sg t - 3) (if 0 < mn t then ev sg mn se g V D (t + 1) else 0) (if 1 < mn t then ev sg mn se g V D (se t) else 0) := rfl
section WO
variable {F n d i A L T : Nat} {ar : List Nat} {tb : Nat → Nat → Int} {sg mn se : Nat → Nat} {g : Nat → Nat} {h : HF}
theorem vl_lt (hw : WF n ar tb) : ∀ o a b, o < ar.length → a < n → b < n → vl tb n ar o a b < n := fun o a b ho ha hb => (vl_eq hw ho ha hb).2
theorem worth_eq (hd : d < 10) (hi : i < 4) (hw : WF n ar tb) (hr : RepM h 184 185 186 187 d n ar tb) (hT : T ≤ 80) (hrow : RowM h i T sg mn se) (hp : RowP T sg mn) (hf : fitP ar sg mn T) (hg : ∀ v, v < 3 → g v < n) (hx : h 181 37 = (g 0 : Int) ∧ h 181 38 = (g 1 : Int) ∧ h 181 39 = (g 2 : Int)) : ∀ (D D' t e : Nat), D' ≤ D → TT sg mn se D' t e → e ≤ T → fX12_worth F D 181 (d : Int) (i : Int) (t : Int) h = some (((ev sg mn se g (vl tb n ar) D t : Nat) : Int), h) := by
  intro D
  induction D with
  | zero => intro D' t e h1 h2; rw [show D' = 0 by omega] at h2; exact h2.elim
  | succ D ih =>
    intro D' t e h1 h2 h3
    have lt := TT_lt _ _ _ h2
    obtain ⟨D', rfl⟩ : ∃ x, D' = x + 1 := by
      cases D' with
      | zero => exact h2.elim
      | succ x => exact ⟨x, rfl⟩
    obtain ⟨r1, r2, r3, r4⟩ := hrow t (by omega)
    obtain ⟨p1, p2, p3⟩ := hp t (by omega)
    rw [fX12_worth, ix80 hi (show t < 81 by omega), zlet_eq, rdm13 (by omega), r1, ev_s]
    simp only [zjn_eq]
    by_cases q : sg t < 3
    · rw [if_pos (show (sg t : Int) < 3 by omega), if_pos q]
      by_cases q0 : sg t = 0
      · rw [if_pos (by omega), zgf_eq, hx.1, q0]
      · rw [if_neg (by omega)]
        by_cases q1 : sg t = 1
        · rw [if_pos (by omega), zgf_eq, hx.2.1, q1]
        · rw [if_neg (by omega), zgf_eq, hx.2.2, show sg t = 2 by omega]
    · have ho := ((hf t (by omega)).resolve_left q).1
      rw [if_neg (show ¬ (sg t : Int) < 3 by omega), if_neg q, rdm14 (by omega), r2]
      have mv : ∀ a b : Nat, a < n → b < n → (zbd (fX12_value F 181 (d : Int) (wr ((sg t : Int) - 3)) (a : Int) (b : Int) h) fun r8 h => (some (r8, h) : RO)) = some (((vl tb n ar (sg t - 3) a b : Nat) : Int), h) := fun a b ha hb => by
        rw [wr_id (x := (sg t : Int) - 3) ⟨by omega, by omega⟩, show (sg t : Int) - 3 = ((sg t - 3 : Nat) : Int) by omega, mval hd hw hr ho ha hb, zbd_some]
      have hn := hw.1.1
      have bd : ∀ t' D'' e', D'' ≤ D → TT sg mn se D'' t' e' → e' ≤ T → ev sg mn se g (vl tb n ar) D t' < n := fun t' D'' e' a1 a2 a3 => ev_lt hg hn hf (vl_lt hw) D t' (Or.inr ⟨D'', e', a1, a2, a3⟩)
      rcases h2 with ⟨m0, _⟩ | ⟨_, m1, h2⟩ | ⟨_, m2, h2, h4⟩
      · rw [if_neg (show ¬ (0 : Int) < (mn t : Int) by omega), if_neg (show ¬ 0 < mn t by omega), if_neg (show ¬ 1 < mn t by omega), rdm14 (by omega), r2, if_neg (show ¬ (1 : Int) < (mn t : Int) by omega)]
        exact mv 0 0 (by omega) (by omega)
      · rw [if_pos (show (0 : Int) < (mn t : Int) by omega), if_pos (show 0 < mn t by omega), if_neg (show ¬ 1 < mn t by omega), rdm15 (by omega), r3 (by omega), ih D' (t + 1) e (by omega) h2 h3, zbd_some, rdm14 (by omega), r2, if_neg (show ¬ (1 : Int) < (mn t : Int) by omega)]
        exact mv _ 0 (bd _ D' e (by omega) h2 h3) (by omega)
      · have l4 := TT_lt _ _ _ h4
        rw [if_pos (show (0 : Int) < (mn t : Int) by omega), if_pos (show 0 < mn t by omega), if_pos (show 1 < mn t by omega), rdm15 (by omega), r3 (by omega), ih D' (t + 1) (se t) (by omega) h2 (by omega), zbd_some, rdm14 (by omega), r2, if_pos (show (1 : Int) < (mn t : Int) by omega), rdm16 (by omega), r4 m2, ih D' (se t) e (by omega) h4 h3, zbd_some]
        exact mv _ _ (bd _ D' _ (by omega) h2 (by omega)) (bd _ D' e (by omega) h4 h3)
/-- the value of a term, and of its arguments -/
def eT (sg mn se g : Nat → Nat) (V : Nat → Nat → Nat → Nat) (t : Nat) : Nat := ev sg mn se g V 10 t
def eA (sg mn se g : Nat → Nat) (V : Nat → Nat → Nat → Nat) (t : Nat) : Nat := if 0 < mn t then eT sg mn se g V (t + 1) else 0
def eB (sg mn se g : Nat → Nat) (V : Nat → Nat → Nat → Nat) (t : Nat) : Nat := if 1 < mn t then eT sg mn se g V (se t) else 0
theorem eT_eq {V : Nat → Nat → Nat → Nat} {D t e : Nat} (hD : D ≤ 8) (h : TT sg mn se D t e) : eT sg mn se g V t = if sg t < 3 then g (sg t) else V (sg t - 3) (eA sg mn se g V t) (eB sg mn se g V t) := by
  obtain ⟨D, rfl⟩ : ∃ x, D = x + 1 := by
    cases D with
    | zero => exact h.elim
    | succ x => exact ⟨x, rfl⟩
  unfold eA eB
  show ev sg mn se g V (9 + 1) t = _
  rw [ev_s]
  rcases h with ⟨m0, _⟩ | ⟨_, m1, h2⟩ | ⟨_, m2, h2, h4⟩
  · rw [if_neg (show ¬ 0 < mn t by omega), if_neg (show ¬ 1 < mn t by omega), if_neg (show ¬ 0 < mn t by omega), if_neg (show ¬ 1 < mn t by omega)]
  · rw [if_pos (show 0 < mn t by omega), if_neg (show ¬ 1 < mn t by omega), if_pos (show 0 < mn t by omega), if_neg (show ¬ 1 < mn t by omega)]
    rw [show eT sg mn se g V (t + 1) = ev sg mn se g V 9 (t + 1) by unfold eT; rw [ev_dep D _ _ 10 h2 (by omega), ev_dep D _ _ 9 h2 (by omega)]]
  · rw [if_pos (show 0 < mn t by omega), if_pos (show 1 < mn t by omega), if_pos (show 0 < mn t by omega), if_pos (show 1 < mn t by omega)]
    rw [show eT sg mn se g V (t + 1) = ev sg mn se g V 9 (t + 1) by unfold eT; rw [ev_dep D _ _ 10 h2 (by omega), ev_dep D _ _ 9 h2 (by omega)]]
    rw [show eT sg mn se g V (se t) = ev sg mn se g V 9 (se t) by unfold eT; rw [ev_dep D _ _ 10 h4 (by omega), ev_dep D _ _ 9 h4 (by omega)]]
theorem eT_lt (hw : WF n ar tb) (hf : fitP ar sg mn T) (hg : ∀ v, v < 3 → g v < n) {D t e : Nat} (hD : D ≤ 8) (h : TT sg mn se D t e) (he : e ≤ T) : eT sg mn se g (vl tb n ar) t < n ∧ eA sg mn se g (vl tb n ar) t < n ∧ eB sg mn se g (vl tb n ar) t < n := by
  have hn := hw.1.1
  have L : ∀ D' t' e', D' ≤ 8 → TT sg mn se D' t' e' → e' ≤ T → eT sg mn se g (vl tb n ar) t' < n := fun D' t' e' a1 a2 a3 => ev_lt hg hn hf (vl_lt hw) 10 t' (Or.inr ⟨D', e', by omega, a2, a3⟩)
  refine ⟨L D t e hD h he, ?_, ?_⟩
  · unfold eA
    by_cases z : 0 < mn t
    · rw [if_pos z]
      obtain ⟨D, rfl⟩ : ∃ x, D = x + 1 := by
        cases D with
        | zero => exact h.elim
        | succ x => exact ⟨x, rfl⟩
      rcases h with ⟨m0, _⟩ | ⟨_, m1, h2⟩ | ⟨_, m2, h2, h4⟩
      · omega
      · exact L D _ e (by omega) h2 he
      · have := TT_lt _ _ _ h4
        exact L D _ _ (by omega) h2 (by omega)
    · rw [if_neg z]; omega
  · unfold eB
    by_cases z : 1 < mn t
    · rw [if_pos z]
      obtain ⟨D, rfl⟩ : ∃ x, D = x + 1 := by
        cases D with
        | zero => exact h.elim
        | succ x => exact ⟨x, rfl⟩
      rcases h with ⟨m0, _⟩ | ⟨_, m1, h2⟩ | ⟨_, m2, h2, h4⟩
      · omega
      · omega
      · exact L D _ e (by omega) h4 he
    · rw [if_neg z]; omega
/-- the place in the line of the cell that a term looks at -/
def spT (n : Nat) (ar : List Nat) (sg mn se g : Nat → Nat) (V : Nat → Nat → Nat → Nat) (t : Nat) : Nat := sto n ar (sg t - 3) + ix n (ar.getD (sg t - 3) 0) (eA sg mn se g V t) (eB sg mn se g V t)
theorem zmax_le {a b : Int} : a ≤ zmax a b ∧ b ≤ zmax a b ∧ (zmax a b = a ∨ zmax a b = b) := by
  unfold zmax
  by_cases q : a < b
  · rw [if_pos q]; omega
  · rw [if_neg q]; omega
/-- the class: the values of the terms of a same, from the last one back -/
theorem agr_c (hk : kt A = 0 + 3) (hA : A + 3 < 91 ∨ 93 < A) (hL : LCell L) (hw : WF n ar tb) (hT : T ≤ 80) (hp : RowP T sg mn) (hf : fitP ar sg mn T) (hg : ∀ v, v < 3 → g v < n) {lo hi : Nat} (hhi : hi ≤ T) (hs : Sub sg mn se lo hi) {u3 : Int} {kk : Int → HF → RO} : ∀ (m N : Nat) (h : HF) (R : Int), lo + m ≤ hi → m + 1 ≤ N → RepC h A n ar tb → RowC h L T sg mn se → (∀ v, v < 3 → h 92 v = (g v : Int)) → h 91 2 = R → (∀ t, lo + m ≤ t → t < hi → h 93 t = (eT sg mn se g (vl tb n ar) t : Int)) → ∃ (h' : HF) (R' : Int), LX5_agrees_20 F 91 A L u3 (lo : Int) kk N (((lo + m : Nat) : Int) - 1) h = kk (lo : Int) h' ∧ h' 91 2 = R' ∧ R ≤ R' ∧ (R' = R ∨ R' < (sto n ar ar.length : Int)) ∧ (∀ t, lo ≤ t → t < hi → h' 93 t = (eT sg mn se g (vl tb n ar) t : Int)) ∧ (∀ t, lo ≤ t → t < lo + m → 3 ≤ sg t → (spT n ar sg mn se g (vl tb n ar) t : Int) ≤ R') ∧ ∀ c i, c ≠ 93 → (c ≠ 91 ∨ i ≠ 2) → h' c i = h c i := by
  have hLf := LCell_far hL
  obtain ⟨-, -, -, -, k5, k6, k7⟩ := LCell_kl hL
  obtain ⟨-, -, -, -, -, kA3⟩ := zl_0 A hk
  intro m
  induction m with
  | zero =>
    intro N h R hm hN hr hrow h92 h91 h93
    obtain ⟨N, rfl⟩ : ∃ M, N = M + 1 := ⟨N - 1, by omega⟩
    refine ⟨h, R, ?_, h91, Int.le_refl _, Or.inl rfl, fun t h1 h2 => h93 t (by omega) h2, fun t h1 h2 => absurd h2 (by omega), fun _ _ _ _ => rfl⟩
    rw [LX5_agrees_20, if_pos (by omega)]
  | succ m ih =>
    intro N h R hm hN hr hrow h92 h91 h93
    obtain ⟨N, rfl⟩ : ∃ M, N = M + 1 := ⟨N - 1, by omega⟩
    obtain ⟨r1, r2, r3⟩ := hrow (lo + m) (by omega)
    obtain ⟨p1, p2, p3⟩ := hp (lo + m) (by omega)
    obtain ⟨D, e, d1, d2, tt⟩ := hs (lo + m) (by omega) (by omega)
    obtain ⟨l1, l2, l3⟩ := eT_lt hw hf hg d1 tt (show e ≤ T by omega)
    have ee := eT_eq (g := g) (V := vl tb n ar) d1 tt
    -- from the heap behind this term on
    have go : ∀ (h2 : HF) (R2 : Int), h2 91 2 = R2 → h2 93 (lo + m) = (eT sg mn se g (vl tb n ar) (lo + m) : Int) → (∀ c i, (c ≠ 93 ∨ i ≠ lo + m) → (c ≠ 91 ∨ i ≠ 2) → h2 c i = h c i) → R ≤ R2 → (R2 = R ∨ R2 < (sto n ar ar.length : Int)) → (3 ≤ sg (lo + m) → (spT n ar sg mn se g (vl tb n ar) (lo + m) : Int) ≤ R2) → ∃ (h' : HF) (R' : Int), LX5_agrees_20 F 91 A L u3 (lo : Int) kk N (wr (((lo + m : Nat) : Int) + (-1))) h2 = kk (lo : Int) h' ∧ h' 91 2 = R' ∧ R ≤ R' ∧ (R' = R ∨ R' < (sto n ar ar.length : Int)) ∧ (∀ t, lo ≤ t → t < hi → h' 93 t = (eT sg mn se g (vl tb n ar) t : Int)) ∧ (∀ t, lo ≤ t → t < lo + (m + 1) → 3 ≤ sg t → (spT n ar sg mn se g (vl tb n ar) t : Int) ≤ R') ∧ ∀ c i, c ≠ 93 → (c ≠ 91 ∨ i ≠ 2) → h' c i = h c i := fun h2 R2 a1 a2 a3 a4 a5 a6 => by
      obtain ⟨h', R', x1, x2, x3, x4, x5, x6, x7⟩ := ih N h2 R2 (by omega) (by omega) (RepC_keep (fun i k hi => a3 _ _ (by omega) (by omega)) hr) (fun t ht => by
        obtain ⟨b1, b2, b3⟩ := hrow t ht
        exact ⟨by rw [a3 _ _ (by omega) (by omega)]; exact b1, by rw [a3 _ _ (by omega) (by omega)]; exact b2, fun z => by rw [a3 _ _ (by omega) (by omega)]; exact b3 z⟩) (fun v hv => by rw [a3 _ _ (by omega) (by omega)]; exact h92 v hv) a1 (fun t h1 h3 => by
        by_cases z : t = lo + m
        · rw [z]; exact a2
        · rw [a3 _ _ (by omega) (by omega)]; exact h93 t (by omega) h3)
      refine ⟨h', R', ?_, x2, by omega, by omega, x5, fun t h1 h3 h4 => ?_, fun c i z w => by rw [x7 c i z w, a3 c i (by omega) w]⟩
      · rw [wr_id ⟨by omega, by omega⟩]
        exact x1
      · by_cases z : t = lo + m
        · rw [z] at h4 ⊢; have := a6 h4; omega
        · exact x6 t h1 (by omega) h4
    rw [show (((lo + (m + 1) : Nat) : Int) - 1) = ((lo + m : Nat) : Int) by omega, LX5_agrees_20, if_neg (by omega), zrd_ok (a := L + 5) ⟨by omega, by omega⟩, Int.toNat_natCast, r1]
    simp only [zjn_eq, zlet_eq]
    by_cases q : sg (lo + m) < 3
    · rw [if_pos (by omega), rd92 q, wt93 (by omega), h92 _ q]
      refine go _ R (by rw [stp_ne (by omega)]; exact h91) (by rw [stp_eq, ee, if_pos q]) (fun c i z w => stp_ne (by omega)) (Int.le_refl _) (Or.inl rfl) (fun z => absurd z (by omega))
    · rw [if_neg q] at ee
      have ho := ((hf (lo + m) (by omega)).resolve_left q).1
      rw [if_neg (show ¬ (sg (lo + m) : Int) < 3 by omega), zrd_ok (a := L + 6) ⟨by omega, by omega⟩, Int.toNat_natCast, r2, zrd_ok (a := L + 6) ⟨by omega, by omega⟩, Int.toNat_natCast, r2]
      -- the cell
      have spl : spT n ar sg mn se g (vl tb n ar) (lo + m) < sto n ar ar.length := by
        have h1 := ix_lt (n := n) (r := ar.getD (sg (lo + m) - 3) 0) (a := eA sg mn se g (vl tb n ar) (lo + m)) (b := eB sg mn se g (vl tb n ar) (lo + m)) hw.1.1 (fun _ => l2) (fun _ => l3)
        have h2 := sto_mono (n := n) (ar := ar) (o := sg (lo + m) - 3) ar.length (by omega)
        unfold spT
        omega
      have stl := sto_le hw.1.2 hw.2.2.1 ar.length (Nat.le_refl _)
      have hl4 := hw.2.1
      have cell : ∀ K : HF → RO, (zbd (fX0_spot F A (wr ((sg (lo + m) : Int) - 3)) (eA sg mn se g (vl tb n ar) (lo + m) : Int) (eB sg mn se g (vl tb n ar) (lo + m) : Int) h) fun r12 h => zgf h 91 2 fun x13 => zpf h 91 2 (zmax x13 r12) fun h => zrd h (A + 3) r12 fun x14 => zwr h (91 + 2) ((lo + m : Nat) : Int) x14 fun h => K h) = K (stp (stp h 91 2 (zmax R (spT n ar sg mn se g (vl tb n ar) (lo + m) : Int))) 93 (lo + m) (eT sg mn se g (vl tb n ar) (lo + m) : Int)) := fun K => by
        have ci : h (A + 3) (spT n ar sg mn se g (vl tb n ar) (lo + m)) = (eT sg mn se g (vl tb n ar) (lo + m) : Int) := by
          unfold spT
          rw [hr.2.2.2.2.2 _ ho _ (ix_lt hw.1.1 (fun _ => l2) (fun _ => l3)), (vl_eq hw ho l2 l3).1, ee]
        rw [wr_id (x := (sg (lo + m) : Int) - 3) ⟨by omega, by omega⟩, show (sg (lo + m) : Int) - 3 = ((sg (lo + m) - 3 : Nat) : Int) by omega, spot_eq hk hw hr ho (fun _ => by omega) (fun _ => by omega), zbd_some, Int.toNat_natCast, Int.toNat_natCast, zgf_eq, h91, zpf_eq]
        rw [show (sto n ar (sg (lo + m) - 3) + ix n (ar.getD (sg (lo + m) - 3) 0) (eA sg mn se g (vl tb n ar) (lo + m)) (eB sg mn se g (vl tb n ar) (lo + m))) = spT n ar sg mn se g (vl tb n ar) (lo + m) from rfl, zrd_ok (a := A + 3) ⟨by omega, by omega⟩, Int.toNat_natCast, stp_ne (by omega), ci, wt93 (by omega)]
      have zm := zmax_le (a := R) (b := (spT n ar sg mn se g (vl tb n ar) (lo + m) : Int))
      have fin := go (stp (stp h 91 2 (zmax R (spT n ar sg mn se g (vl tb n ar) (lo + m) : Int))) 93 (lo + m) (eT sg mn se g (vl tb n ar) (lo + m) : Int)) _ (by rw [stp_ne (by omega), stp_eq]) (stp_eq _ _ _ _) (fun c i z w => by rw [stp_ne z, stp_ne w]) zm.1 (by omega) (fun _ => zm.2.1)
      by_cases z0 : 0 < mn (lo + m)
      · have l9 : lo + m + 1 < hi := by
          obtain ⟨D, rfl⟩ : ∃ x, D = x + 1 := by
            cases D with
            | zero => exact tt.elim
            | succ x => exact ⟨x, rfl⟩
          rcases tt with ⟨m0, _⟩ | ⟨_, m1, t2⟩ | ⟨_, m2, t2, t4⟩
          · omega
          · have := TT_lt _ _ _ t2; omega
          · have := TT_lt _ _ _ t2
            have := TT_lt _ _ _ t4
            omega
        have eqA : (eA sg mn se g (vl tb n ar) (lo + m) : Int) = h 93 (lo + m + 1) := by
          rw [h93 _ (by omega) l9]
          unfold eA
          rw [if_pos z0]
        rw [if_pos (show (0 : Int) < (mn (lo + m) : Int) by omega), wr_s (by omega), rd93 (by omega), ← eqA, zrd_ok (a := L + 6) ⟨by omega, by omega⟩, Int.toNat_natCast, r2]
        by_cases z1 : 1 < mn (lo + m)
        · have m2 : mn (lo + m) = 2 := by omega
          have sl : lo + m < se (lo + m) ∧ se (lo + m) < hi := by
            obtain ⟨D, rfl⟩ : ∃ x, D = x + 1 := by
              cases D with
              | zero => exact tt.elim
              | succ x => exact ⟨x, rfl⟩
            rcases tt with ⟨m0, _⟩ | ⟨_, m1, t2⟩ | ⟨_, m2, t2, t4⟩
            · omega
            · omega
            · have := TT_lt _ _ _ t2
              have := TT_lt _ _ _ t4
              omega
          have eqB : (eB sg mn se g (vl tb n ar) (lo + m) : Int) = h 93 (se (lo + m)) := by
            rw [h93 _ (by omega) sl.2]
            unfold eB
            rw [if_pos z1]
          rw [if_pos (show (1 : Int) < (mn (lo + m) : Int) by omega), zrd_ok (a := L + 7) ⟨by omega, by omega⟩, Int.toNat_natCast, r3 m2, rd93 (by omega), ← eqB, cell]
          exact fin
        · have eqB : (0 : Int) = (eB sg mn se g (vl tb n ar) (lo + m) : Int) := by unfold eB; rw [if_neg z1]; rfl
          rw [if_neg (show ¬ (1 : Int) < (mn (lo + m) : Int) by omega)]
          have c0 := cell (fun h => LX5_agrees_20 F 91 A L u3 (lo : Int) kk N (wr (((lo + m : Nat) : Int) + (-1))) h)
          rw [← eqB] at c0
          rw [c0]
          exact fin
      · have eqA : (0 : Int) = (eA sg mn se g (vl tb n ar) (lo + m) : Int) := by unfold eA; rw [if_neg z0]; rfl
        have eqB : (0 : Int) = (eB sg mn se g (vl tb n ar) (lo + m) : Int) := by unfold eB; rw [if_neg (by omega)]; rfl
        rw [if_neg (show ¬ (0 : Int) < (mn (lo + m) : Int) by omega), if_neg (show ¬ (1 : Int) < (mn (lo + m) : Int) by omega)]
        have c0 := cell (fun h => LX5_agrees_20 F 91 A L u3 (lo : Int) kk N (wr (((lo + m : Nat) : Int) + (-1))) h)
        rw [← eqB, ← eqA] at c0
        rw [c0]
        exact fin
end WO
