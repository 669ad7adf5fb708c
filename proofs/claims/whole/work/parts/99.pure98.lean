/-! the reference lays a line, and compares one with a line laid -/
theorem kX {X : Nat} (hX : X = 213 ∨ X = 214) : kl X = 196 := by rcases hX with rfl | rfl <;> decide +kernel
theorem rdX {h : HF} {X i : Nat} {f : Int → RO} (hX : X = 213 ∨ X = 214) (hi : i < 196) : zrd h X (i : Int) f = f (h X i) := by
  rw [zrd_ok ⟨by omega, by rw [kX hX]; omega⟩, Int.toNat_natCast]
theorem wtX {h : HF} {X i : Nat} {v : Int} {f : HF → RO} (hX : X = 213 ∨ X = 214) (hi : i < 196) : zwr h X (i : Int) v f = f (stp h X i v) := by
  rw [zwr_ok ⟨by omega, by rw [kX hX]; omega⟩, Int.toNat_natCast]
theorem drop_gd {l : List Nat} {v : Nat} (h : v < l.length) : l.drop v = l.getD v 0 :: l.drop (v + 1) := by
  rw [List.drop_eq_getElem_cons h, List.getD_eq_getElem?_getD, List.getElem?_eq_getElem h]; rfl
theorem cmpL_drop {x y L : List Nat} {v : Nat} (h : v + x.length ≤ L.length) : cmpL (x ++ y) (L.drop v) = if cmpL x (L.drop v) = 0 then cmpL y (L.drop (v + x.length)) else cmpL x (L.drop v) := by
  rw [cmpL_app x (L.drop v) (by rw [List.length_drop]; omega), List.drop_drop]
section LY
variable {F n d X : Nat} {ar : List Nat} {tb : Nat → Nat → Int} {p : List Nat}
/-- one cell, read by the reference -/
theorem one_m {h : HF} (hd : d < 10) (hw : WF n ar tb) (hp : IsP n p) (hM : MB h d n ar tb p) {o a b : Nat} (ho : o < ar.length) (ha : a < n) (hb : b < n) {f : Int → HF → RO} : (zrd h (181 + 31) (a : Int) fun x6 => zrd h (181 + 31) (b : Int) fun x7 => zbd (fX12_value F 181 (d : Int) (o : Int) x6 x7 h) fun r8 h => zrd h (181 + 30) r8 fun x => f x h) = f (lnv tb n ar p o a b : Int) h := by
  have hn := hw.1
  have pa := hp.1.2 a ha
  have pb := hp.1.2 b hb
  rw [rdm31 (by omega), rdm31 (by omega), hM.2.2 a ha, hM.2.2 b hb, mval hd hw hM.1 ho pa pb, zbd_some]
  have := (vl_eq hw ho pa pb).2
  rw [rdm30 (by omega), hM.2.1 _ this]
  rfl
theorem lay3 (hX : X = 213 ∨ X = 214) (hd : d < 10) (hw : WF n ar tb) (hp : IsP n p) {o a : Nat} (ho : o < ar.length) (ha : a < n) {k120 : Int → Int → HF → RO} : ∀ (m b N : Nat) (l : List Nat) (h : HF), b + m = clN n (ar.getD o 0) → m + 1 ≤ N → l.length + m ≤ 196 → MB h d n ar tb p → LN h X l → ∃ h', LX12_lay_69 F 181 (d : Int) X (o : Int) (a : Int) k120 N (l.length : Int) (b : Int) h = k120 ((l.length + m : Nat) : Int) (a : Int) h' ∧ LN h' X (l ++ flF (lB tb n ar p o a) m b) ∧ ∀ c i, c ≠ X → h' c i = h c i := by
  have hn := hw.1
  intro m
  induction m with
  | zero =>
    intro b N l h hb hN hl hM hL
    obtain ⟨N, rfl⟩ : ∃ M, N = M + 1 := ⟨N - 1, by omega⟩
    refine ⟨h, ?_, by rw [flF, List.append_nil]; exact hL, fun _ _ _ => rfl⟩
    rw [LX12_lay_69, upTo1 hd hw hM.1 ho, zbd_some, if_neg (by omega)]; rfl
  | succ m ih =>
    intro b N l h hb hN hl hM hL
    obtain ⟨N, rfl⟩ : ∃ M, N = M + 1 := ⟨N - 1, by omega⟩
    have hb' : b < n := by have := (rwN_le hn.1 (r := ar.getD o 0)).2; omega
    obtain ⟨h', e1, e2, e3⟩ := ih (b + 1) N (l ++ [lnv tb n ar p o a b]) (stp h X l.length (lnv tb n ar p o a b : Int)) (by omega) (by omega) (by rw [List.length_append, List.length_singleton]; omega) (MB_keep (fun c i hc => stp_ne (by omega)) hM) (LN_snoc hL)
    refine ⟨h', ?_, ?_, fun c i hc => (e3 c i hc).trans (stp_ne (by omega))⟩
    · rw [LX12_lay_69, upTo1 hd hw hM.1 ho, zbd_some, if_pos (by omega), one_m hd hw hp hM ho ha hb', wtX hX (by omega), zlet_eq, zlet_eq, wr_id (x := (l.length : Int) + 1) ⟨by omega, by omega⟩, wr_id (x := (b : Int) + 1) ⟨by omega, by omega⟩]
      rw [List.length_append, List.length_singleton] at e1
      refine e1.trans ?_
      rw [show l.length + 1 + m = l.length + (m + 1) by omega]
    · rw [flF_s]; unfold lB at e2 ⊢
      rwa [← List.append_assoc]
theorem lay2 (hF : 9 ≤ F) (hX : X = 213 ∨ X = 214) (hd : d < 10) (hw : WF n ar tb) (hp : IsP n p) {o : Nat} (ho : o < ar.length) {k126 : Int → Int → HF → RO} : ∀ (m a N : Nat) (l : List Nat) (h : HF), a + m = rwN n (ar.getD o 0) → m + 1 ≤ N → l.length + m * clN n (ar.getD o 0) ≤ 196 → MB h d n ar tb p → LN h X l → ∃ h', LX12_lay_53 F 181 (d : Int) X (o : Int) k126 N (l.length : Int) (a : Int) h = k126 ((l.length + m * clN n (ar.getD o 0) : Nat) : Int) (o : Int) h' ∧ LN h' X (l ++ flF (lA tb n ar p o) m a) ∧ ∀ c i, c ≠ X → h' c i = h c i := by
  have hn := hw.1
  intro m
  induction m with
  | zero =>
    intro a N l h hb hN hl hM hL
    obtain ⟨N, rfl⟩ : ∃ M, N = M + 1 := ⟨N - 1, by omega⟩
    refine ⟨h, ?_, by rw [flF, List.append_nil]; exact hL, fun _ _ _ => rfl⟩
    rw [LX12_lay_53, upTo0 hd hw hM.1 ho, zbd_some, if_neg (by omega), Nat.zero_mul]; rfl
  | succ m ih =>
    intro a N l h hb hN hl hM hL
    obtain ⟨N, rfl⟩ : ∃ M, N = M + 1 := ⟨N - 1, by omega⟩
    have hx := rwN_le hn.1 (r := ar.getD o 0)
    rw [Nat.succ_mul] at hl
    obtain ⟨h1, j1, j2, j3⟩ := lay3 (F := F) hX hd hw hp ho (a := a) (by omega) (k120 := fun (x120_3 : Int) (x120_5 : Int) (h : HF) => zlet (wr (x120_5 + 1)) fun x4 => LX12_lay_53 F 181 (d : Int) X (o : Int) k126 N x120_3 x4 h) (clN n (ar.getD o 0)) 0 F l h (by omega) (by omega) (by omega) hM hL
    have ll : (l ++ lA tb n ar p o a).length = l.length + clN n (ar.getD o 0) := by rw [List.length_append, lA_len]
    obtain ⟨h', e1, e2, e3⟩ := ih (a + 1) N (l ++ lA tb n ar p o a) h1 (by omega) (by omega) (by omega) (MB_keep (fun c i hc => j3 c i (by omega)) hM) j2
    refine ⟨h', ?_, ?_, fun c i hc => (e3 c i hc).trans (j3 c i hc)⟩
    · rw [LX12_lay_53, upTo0 hd hw hM.1 ho, zbd_some, if_pos (by omega), zjn_eq]
      refine j1.trans ?_
      rw [zlet_eq, wr_id ⟨by omega, by omega⟩]
      rw [ll] at e1
      refine e1.trans ?_
      rw [Nat.succ_mul, show l.length + clN n (ar.getD o 0) + m * clN n (ar.getD o 0) = l.length + (m * clN n (ar.getD o 0) + clN n (ar.getD o 0)) by omega]
    · rw [flF_s, ← List.append_assoc]; exact e2
theorem lay1 (hF : 9 ≤ F) (hX : X = 213 ∨ X = 214) (hd : d < 10) (hw : WF n ar tb) (hp : IsP n p) {k132 : HF → RO} : ∀ (m o N : Nat) (l : List Nat) (h : HF), o + m = ar.length → m + 1 ≤ N → l.length = sto n ar o → MB h d n ar tb p → LN h X l → ∃ h', LX12_lay_39 F 181 (d : Int) X k132 N (l.length : Int) (o : Int) h = k132 h' ∧ LN h' X (l ++ flF (lO tb n ar p) m o) ∧ ∀ c i, c ≠ X → h' c i = h c i := by
  have hn := hw.1
  have hl4 := hw.2.1
  intro m
  induction m with
  | zero =>
    intro o N l h hb hN hl hM hL
    obtain ⟨N, rfl⟩ : ∃ M, N = M + 1 := ⟨N - 1, by omega⟩
    refine ⟨h, ?_, by rw [flF, List.append_nil]; exact hL, fun _ _ _ => rfl⟩
    rw [LX12_lay_39, rdm4 (by omega), hM.1.2.1, if_neg (by omega)]
  | succ m ih =>
    intro o N l h hb hN hl hM hL
    obtain ⟨N, rfl⟩ : ∃ M, N = M + 1 := ⟨N - 1, by omega⟩
    have hx := rwN_le hn.1 (r := ar.getD o 0)
    have hr2 := hw.2.2.1 o (by omega)
    have st := sto_le hn.2 hw.2.2.1 (o + 1) (by omega)
    have es : sto n ar (o + 1) = sto n ar o + pw n (ar.getD o 0) := rfl
    have ep := rc_pw (n := n) hr2
    obtain ⟨h1, j1, j2, j3⟩ := lay2 (F := F) hF hX hd hw hp (o := o) (by omega) (k126 := fun (x126_3 : Int) (x126_4 : Int) (h : HF) => zlet (wr (x126_4 + 1)) fun x2 => LX12_lay_39 F 181 (d : Int) X k132 N x126_3 x2 h) (rwN n (ar.getD o 0)) 0 F l h (by omega) (by omega) (by omega) hM hL
    have ll : (l ++ lO tb n ar p o).length = l.length + rwN n (ar.getD o 0) * clN n (ar.getD o 0) := by rw [List.length_append, lO_len hr2, ep]
    obtain ⟨h', e1, e2, e3⟩ := ih (o + 1) N (l ++ lO tb n ar p o) h1 (by omega) (by omega) (by omega) (MB_keep (fun c i hc => j3 c i (by omega)) hM) j2
    refine ⟨h', ?_, ?_, fun c i hc => (e3 c i hc).trans (j3 c i hc)⟩
    · rw [LX12_lay_39, rdm4 (by omega), hM.1.2.1, if_pos (by omega), zjn_eq]
      refine j1.trans ?_
      rw [zlet_eq, wr_id ⟨by omega, by omega⟩]
      rw [ll] at e1
      exact e1
    · rw [flF_s, ← List.append_assoc]; exact e2
theorem lay_m {h : HF} {s : List Nat} (hF : 9 ≤ F) (hX : X = 213 ∨ X = 214) (hd : d < 10) (hw : WF n ar tb) (hs : IsP n s) (hr : RepM h 184 185 186 187 d n ar tb) (hL : LN h 211 s) : ∃ h', fX12_lay F 181 (d : Int) X h = some (0, h') ∧ LN h' X (lnL tb n ar (invL n s)) ∧ ∀ c i, (c ≠ X ∧ c ≠ 212) → h' c i = h c i := by
  have hn := hw.1
  have hl4 := hw.2.1
  obtain ⟨h1, a1, a2, a3⟩ := bk_lay (F := F) hn.2 hd hs (X := X) (u3 := 0) (k36 := fun (x36_3 : Int) (h : HF) => zjn (fun (h : HF) => some (0, h)) fun j132 => LX12_lay_39 F 181 (d : Int) X j132 F x36_3 0 h) n 0 F h (by omega) (by omega) hr.1 hL (fun k hk => by omega)
  have hM := MB_of hn.2 hs hr hL a2 a3
  obtain ⟨h2, b1, b2, b3⟩ := lay1 (F := F) hF hX hd hw (IsP_inv hn.2 hs) (k132 := fun h => some (0, h)) ar.length 0 F [] h1 (by omega) (by omega) rfl hM (fun i hi => by simp at hi)
  refine ⟨h2, ?_, b2, fun c i hc => (b3 c i hc.1).trans (a3 c i hc.2)⟩
  unfold fX12_lay
  rw [zjn_eq]
  refine a1.trans ?_
  rw [zjn_eq]
  exact b1
theorem cm3 {L : List Nat} {h : HF} (hX : X = 213 ∨ X = 214) (hd : d < 10) (hw : WF n ar tb) (hp : IsP n p) (hM : MB h d n ar tb p) (hL : LN h X L) (hL6 : L.length ≤ 196) {o a : Nat} (ho : o < ar.length) (ha : a < n) {k146 k122 : Int → Int → HF → RO} : ∀ (m b N v : Nat), b + m = clN n (ar.getD o 0) → m + 1 ≤ N → v + m ≤ L.length → ∃ j x : Nat, (cmpL (flF (lB tb n ar p o a) m b) (L.drop v) ≠ 0 → j < L.length ∧ (x : Int) - (L.getD j 0 : Int) = cmpL (flF (lB tb n ar p o a) m b) (L.drop v)) ∧ LX12_compare_72 F 181 (d : Int) X (o : Int) (a : Int) k146 k122 N (v : Int) (b : Int) h = if cmpL (flF (lB tb n ar p o a) m b) (L.drop v) = 0 then k146 ((v + m : Nat) : Int) (a : Int) h else k122 (j : Int) (x : Int) h := by
  have hn := hw.1
  intro m
  induction m with
  | zero =>
    intro b N v hb hN hv
    obtain ⟨N, rfl⟩ : ∃ M, N = M + 1 := ⟨N - 1, by omega⟩
    have e : cmpL (flF (lB tb n ar p o a) 0 b) (L.drop v) = 0 := by rw [flF]; cases L.drop v <;> rfl
    refine ⟨0, 0, fun w => absurd e w, ?_⟩
    rw [if_pos e, LX12_compare_72, upTo1 hd hw hM.1 ho, zbd_some, if_neg (by omega)]; rfl
  | succ m ih =>
    intro b N v hb hN hv
    obtain ⟨N, rfl⟩ : ∃ M, N = M + 1 := ⟨N - 1, by omega⟩
    have hb' : b < n := by have := (rwN_le hn.1 (r := ar.getD o 0)).2; omega
    have cm : cmpL (flF (lB tb n ar p o a) (m + 1) b) (L.drop v) = if lnv tb n ar p o a b = L.getD v 0 then cmpL (flF (lB tb n ar p o a) m (b + 1)) (L.drop (v + 1)) else (lnv tb n ar p o a b : Int) - (L.getD v 0 : Int) := by
      rw [flF_s, drop_gd (by omega)]; unfold lB; rw [List.singleton_append, cmpL]
    have eqn : LX12_compare_72 F 181 (d : Int) X (o : Int) (a : Int) k146 k122 (N + 1) (v : Int) (b : Int) h = if lnv tb n ar p o a b = L.getD v 0 then LX12_compare_72 F 181 (d : Int) X (o : Int) (a : Int) k146 k122 N ((v + 1 : Nat) : Int) ((b + 1 : Nat) : Int) h else k122 (v : Int) (lnv tb n ar p o a b : Int) h := by
      rw [LX12_compare_72, upTo1 hd hw hM.1 ho, zbd_some, if_pos (by omega), one_m hd hw hp hM ho ha hb', rdX hX (by omega), hL v (by omega)]
      by_cases z : lnv tb n ar p o a b = L.getD v 0
      · rw [if_pos (by omega), if_pos z, zlet_eq, zlet_eq, wr_id (x := (v : Int) + 1) ⟨by omega, by omega⟩, wr_id (x := (b : Int) + 1) ⟨by omega, by omega⟩]; rfl
      · rw [if_neg (by omega), if_neg z]
    rw [eqn, cm]
    by_cases z : lnv tb n ar p o a b = L.getD v 0
    · rw [if_pos z, if_pos z]
      obtain ⟨j, x, i1, i2⟩ := ih (b + 1) N (v + 1) (by omega) (by omega) (by omega)
      refine ⟨j, x, i1, i2.trans ?_⟩
      rw [show v + 1 + m = v + (m + 1) by omega]
    · rw [if_neg z, if_neg z]
      exact ⟨v, lnv tb n ar p o a b, fun _ => ⟨by omega, rfl⟩, by rw [if_neg (by omega)]⟩
theorem cm2 {L : List Nat} {h : HF} (hF : 9 ≤ F) (hX : X = 213 ∨ X = 214) (hd : d < 10) (hw : WF n ar tb) (hp : IsP n p) (hM : MB h d n ar tb p) (hL : LN h X L) (hL6 : L.length ≤ 196) {o : Nat} (ho : o < ar.length) {k152 k122 : Int → Int → HF → RO} : ∀ (m a N v : Nat), a + m = rwN n (ar.getD o 0) → m + 1 ≤ N → v + m * clN n (ar.getD o 0) ≤ L.length → ∃ j x : Nat, (cmpL (flF (lA tb n ar p o) m a) (L.drop v) ≠ 0 → j < L.length ∧ (x : Int) - (L.getD j 0 : Int) = cmpL (flF (lA tb n ar p o) m a) (L.drop v)) ∧ LX12_compare_56 F 181 (d : Int) X (o : Int) k152 k122 N (v : Int) (a : Int) h = if cmpL (flF (lA tb n ar p o) m a) (L.drop v) = 0 then k152 ((v + m * clN n (ar.getD o 0) : Nat) : Int) (o : Int) h else k122 (j : Int) (x : Int) h := by
  have hn := hw.1
  intro m
  induction m with
  | zero =>
    intro a N v hb hN hv
    obtain ⟨N, rfl⟩ : ∃ M, N = M + 1 := ⟨N - 1, by omega⟩
    have e : cmpL (flF (lA tb n ar p o) 0 a) (L.drop v) = 0 := by rw [flF]; cases L.drop v <;> rfl
    refine ⟨0, 0, fun w => absurd e w, ?_⟩
    rw [if_pos e, LX12_compare_56, upTo0 hd hw hM.1 ho, zbd_some, if_neg (by omega), Nat.zero_mul]; rfl
  | succ m ih =>
    intro a N v hb hN hv
    obtain ⟨N, rfl⟩ : ∃ M, N = M + 1 := ⟨N - 1, by omega⟩
    have hx := rwN_le hn.1 (r := ar.getD o 0)
    rw [Nat.succ_mul] at hv
    have cm : cmpL (flF (lA tb n ar p o) (m + 1) a) (L.drop v) = if cmpL (lA tb n ar p o a) (L.drop v) = 0 then cmpL (flF (lA tb n ar p o) m (a + 1)) (L.drop (v + clN n (ar.getD o 0))) else cmpL (lA tb n ar p o a) (L.drop v) := by
      rw [flF_s, cmpL_drop (by rw [lA_len]; omega), lA_len]
    obtain ⟨j, x, i1, i2⟩ := cm3 (F := F) hX hd hw hp hM hL hL6 ho (a := a) (by omega) (k146 := fun (x146_4 : Int) (x146_6 : Int) (h : HF) => zlet (wr (x146_6 + 1)) fun x6 => LX12_compare_56 F 181 (d : Int) X (o : Int) k152 k122 N x146_4 x6 h) (k122 := k122) (clN n (ar.getD o 0)) 0 F v (by omega) (by omega) (by omega)
    have i1' : cmpL (lA tb n ar p o a) (L.drop v) ≠ 0 → j < L.length ∧ (x : Int) - (L.getD j 0 : Int) = cmpL (lA tb n ar p o a) (L.drop v) := i1
    have eqn : LX12_compare_56 F 181 (d : Int) X (o : Int) k152 k122 (N + 1) (v : Int) (a : Int) h = if cmpL (lA tb n ar p o a) (L.drop v) = 0 then LX12_compare_56 F 181 (d : Int) X (o : Int) k152 k122 N ((v + clN n (ar.getD o 0) : Nat) : Int) ((a + 1 : Nat) : Int) h else k122 (j : Int) (x : Int) h := by
      rw [LX12_compare_56, upTo0 hd hw hM.1 ho, zbd_some, if_pos (by omega), zjn_eq]
      refine i2.trans ?_
      rw [zlet_eq, wr_id ⟨by omega, by omega⟩]; rfl
    rw [eqn, cm]
    by_cases z : cmpL (lA tb n ar p o a) (L.drop v) = 0
    · rw [if_pos z, if_pos z]
      obtain ⟨j', x', i3, i4⟩ := ih (a + 1) N (v + clN n (ar.getD o 0)) (by omega) (by omega) (by omega)
      refine ⟨j', x', i3, i4.trans ?_⟩
      rw [Nat.succ_mul, show v + clN n (ar.getD o 0) + m * clN n (ar.getD o 0) = v + (m * clN n (ar.getD o 0) + clN n (ar.getD o 0)) by omega]
    · rw [if_neg z, if_neg z]
      exact ⟨j, x, fun _ => i1' z, by rw [if_neg z]⟩
theorem cm1 {L : List Nat} {h : HF} (hF : 9 ≤ F) (hX : X = 213 ∨ X = 214) (hd : d < 10) (hw : WF n ar tb) (hp : IsP n p) (hM : MB h d n ar tb p) (hL : LN h X L) (hL6 : L.length = sto n ar ar.length) {k158 : HF → RO} {k122 : Int → Int → HF → RO} : ∀ (m o N : Nat), o + m = ar.length → m + 1 ≤ N → ∃ j x : Nat, (cmpL (flF (lO tb n ar p) m o) (L.drop (sto n ar o)) ≠ 0 → j < L.length ∧ (x : Int) - (L.getD j 0 : Int) = cmpL (flF (lO tb n ar p) m o) (L.drop (sto n ar o))) ∧ LX12_compare_42 F 181 (d : Int) X k158 k122 N ((sto n ar o : Nat) : Int) (o : Int) h = if cmpL (flF (lO tb n ar p) m o) (L.drop (sto n ar o)) = 0 then k158 h else k122 (j : Int) (x : Int) h := by
  have hn := hw.1
  have hl4 := hw.2.1
  have stt := sto_le hn.2 hw.2.2.1 ar.length (Nat.le_refl _)
  intro m
  induction m with
  | zero =>
    intro o N hb hN
    obtain ⟨N, rfl⟩ : ∃ M, N = M + 1 := ⟨N - 1, by omega⟩
    have e : cmpL (flF (lO tb n ar p) 0 o) (L.drop (sto n ar o)) = 0 := by rw [flF]; cases L.drop (sto n ar o) <;> rfl
    refine ⟨0, 0, fun w => absurd e w, ?_⟩
    rw [if_pos e, LX12_compare_42, rdm4 (by omega), hM.1.2.1, if_neg (by omega)]
  | succ m ih =>
    intro o N hb hN
    obtain ⟨N, rfl⟩ : ∃ M, N = M + 1 := ⟨N - 1, by omega⟩
    have hx := rwN_le hn.1 (r := ar.getD o 0)
    have hr2 := hw.2.2.1 o (by omega)
    have ep := rc_pw (n := n) hr2
    have es : sto n ar (o + 1) = sto n ar o + pw n (ar.getD o 0) := rfl
    have pp : 0 < pw n (ar.getD o 0) := by
      have := ix_lt (n := n) (r := ar.getD o 0) (a := 0) (b := 0) hn.1 (fun _ => hn.1) (fun _ => hn.1); omega
    have tt := sto_tot (n := n) (ar := ar) (o := o) (i := pw n (ar.getD o 0) - 1) (by omega) (by omega)
    have cm : cmpL (flF (lO tb n ar p) (m + 1) o) (L.drop (sto n ar o)) = if cmpL (lO tb n ar p o) (L.drop (sto n ar o)) = 0 then cmpL (flF (lO tb n ar p) m (o + 1)) (L.drop (sto n ar (o + 1))) else cmpL (lO tb n ar p o) (L.drop (sto n ar o)) := by
      rw [flF_s, cmpL_drop (by rw [lO_len hr2]; omega), lO_len hr2, ← es]
    obtain ⟨j, x, i1, i2⟩ := cm2 (F := F) hF hX hd hw hp hM hL (by omega) (o := o) (by omega) (k152 := fun (x152_4 : Int) (x152_5 : Int) (h : HF) => zlet (wr (x152_5 + 1)) fun x4 => LX12_compare_42 F 181 (d : Int) X k158 k122 N x152_4 x4 h) (k122 := k122) (rwN n (ar.getD o 0)) 0 F (sto n ar o) (by omega) (by omega) (by omega)
    have i1' : cmpL (lO tb n ar p o) (L.drop (sto n ar o)) ≠ 0 → j < L.length ∧ (x : Int) - (L.getD j 0 : Int) = cmpL (lO tb n ar p o) (L.drop (sto n ar o)) := i1
    have eqn : LX12_compare_42 F 181 (d : Int) X k158 k122 (N + 1) ((sto n ar o : Nat) : Int) (o : Int) h = if cmpL (lO tb n ar p o) (L.drop (sto n ar o)) = 0 then LX12_compare_42 F 181 (d : Int) X k158 k122 N ((sto n ar (o + 1) : Nat) : Int) ((o + 1 : Nat) : Int) h else k122 (j : Int) (x : Int) h := by
      rw [LX12_compare_42, rdm4 (by omega), hM.1.2.1, if_pos (by omega), zjn_eq]
      refine i2.trans ?_
      rw [zlet_eq, wr_id ⟨by omega, by omega⟩, ep, ← es]; rfl
    rw [eqn, cm]
    by_cases z : cmpL (lO tb n ar p o) (L.drop (sto n ar o)) = 0
    · rw [if_pos z, if_pos z]
      exact ih (o + 1) N (by omega) (by omega)
    · rw [if_neg z, if_neg z]
      exact ⟨j, x, fun _ => i1' z, by rw [if_neg z]⟩
theorem compare_m {h : HF} {s L : List Nat} (hF : 9 ≤ F) (hX : X = 213 ∨ X = 214) (hd : d < 10) (hw : WF n ar tb) (hs : IsP n s) (hr : RepM h 184 185 186 187 d n ar tb) (hN : LN h 211 s) (hL : LN h X L) (hL6 : L.length = sto n ar ar.length) : ∃ (r : Int) (h' : HF), fX12_compare F 181 (d : Int) X h = some (r, h') ∧ (r < 0 ↔ cmpL (lnL tb n ar (invL n s)) L < 0) ∧ ∀ c i, c ≠ 212 → h' c i = h c i := by
  have hn := hw.1
  have hl4 := hw.2.1
  have stt := sto_le hn.2 hw.2.2.1 ar.length (Nat.le_refl _)
  obtain ⟨h1, a1, a2, a3⟩ := bk_cmp (F := F) hn.2 hs (X := X) (u1 := (d : Int)) (k36 := fun (h : HF) => zjn (fun (h : HF) => some (0, h)) fun j158 => zjn (fun (x122_4 : Int) (x122_8 : Int) (h : HF) => zrd h X x122_4 fun x2 => zjn (fun (y136_0 : Int) (h : HF) => some (y136_0, h)) fun j136 => if x122_8 < x2 then j136 (-1) h else j136 1 h) fun j122 => LX12_compare_42 F 181 (d : Int) X j158 j122 F 0 0 h) n 0 F h (by omega) (by omega) hN (fun k hk => by omega)
  have hM := MB_of hn.2 hs hr hN a2 a3
  have hL1 : LN h1 X L := LN_keep (fun i => a3 _ _ (by omega)) hL
  obtain ⟨j, x, i1, i2⟩ := cm1 (F := F) hF hX hd hw (IsP_inv hn.2 hs) hM hL1 hL6 (k158 := fun (h : HF) => some (0, h)) (k122 := fun (x122_4 : Int) (x122_8 : Int) (h : HF) => zrd h X x122_4 fun x2 => zjn (fun (y136_0 : Int) (h : HF) => some (y136_0, h)) fun j136 => if x122_8 < x2 then j136 (-1) h else j136 1 h) ar.length 0 F (by omega) (by omega)
  have i1' : cmpL (lnL tb n ar (invL n s)) L ≠ 0 → j < L.length ∧ (x : Int) - (L.getD j 0 : Int) = cmpL (lnL tb n ar (invL n s)) L := i1
  have go : fX12_compare F 181 (d : Int) X h = if cmpL (lnL tb n ar (invL n s)) L = 0 then some (0, h1) else (zrd h1 X (j : Int) fun x2 => if (x : Int) < x2 then some (-1, h1) else some (1, h1)) := by
    unfold fX12_compare
    rw [rdm3 (by omega), hr.1, zjn_eq]
    refine a1.trans ?_
    rw [zjn_eq, zjn_eq]
    exact i2
  rw [go]
  by_cases z : cmpL (lnL tb n ar (invL n s)) L = 0
  · rw [if_pos z]
    exact ⟨0, h1, rfl, by rw [z], a3⟩
  · rw [if_neg z]
    obtain ⟨y1, y2⟩ := i1' z
    rw [rdX hX (by omega), hL1 j y1]
    by_cases w : (x : Int) < (L.getD j 0 : Int)
    · rw [if_pos w]; exact ⟨-1, h1, rfl, ⟨fun _ => by omega, fun _ => by omega⟩, a3⟩
    · rw [if_neg w]; exact ⟨1, h1, rfl, ⟨fun _ => by omega, fun _ => by omega⟩, a3⟩
end LY
