/-! span, part -/
def clB (tb : Nat → Nat → Int) (n : Nat) (ar : List Nat) (x : Nat) : Bool := alB (fun o => alB (fun a => alB (fun b => !(wi (ar.getD o 0) x a b) || x.testBit (vl tb n ar o a b)) 0 (clN n (ar.getD o 0))) 0 (rwN n (ar.getD o 0))) 0 ar.length
section IC
variable {F A d n : Nat} {ar : List Nat} {tb : Nat → Nat → Int} {h : HF}
theorem clB_iff {x : Nat} : clB tb n ar x = true ↔ clP tb n ar x := by
  unfold clB clP
  rw [alB_iff]
  constructor
  · intro q o a b h1 h2 h3 h4
    have := q o (Nat.zero_le _) (by omega)
    rw [alB_iff] at this
    have := this a (Nat.zero_le _) (by omega)
    rw [alB_iff] at this
    have := this b (Nat.zero_le _) (by omega)
    rw [h4] at this
    simpa using this
  · intro q o _ h1
    rw [alB_iff]
    intro a _ h2
    rw [alB_iff]
    intro b _ h3
    cases h4 : wi (ar.getD o 0) x a b
    · rfl
    · rw [q o a b (by omega) (by omega) (by omega) h4]; rfl
theorem isC3 (hd : d < 10) (hw : WF n ar tb) (hr : RepM h 184 185 186 187 d n ar tb) {o a x : Nat} (ho : o < ar.length) (ha : a < rwN n (ar.getD o 0)) (hx : x < 2 ^ n) {k136 : Int → HF → RO} {k128 : HF → RO} : ∀ (m b N : Nat), b + m = clN n (ar.getD o 0) → m + 1 ≤ N → LX12_isClosed_46 F 181 (d : Int) (x : Int) (o : Int) ((ar.getD o 0 : Nat) : Int) (a : Int) k136 k128 N (b : Int) h = if alB (fun b => !(wi (ar.getD o 0) x a b) || x.testBit (vl tb n ar o a b)) b m = true then k136 (a : Int) h else k128 h := by
  have hn := hw.1
  have h7 := pw_7 hn.2
  have h2 := hw.2.2.1 o ho
  have hle := rw_le (n := n) (r := ar.getD o 0) hn.1
  have han : a < n := by omega
  have hval : ∀ b, b < n → fX12_value F 181 (d : Int) (o : Int) (a : Int) (b : Int) h = some (((vl tb n ar o a b : Nat) : Int), h) := fun b hb => mval hd hw hr ho han hb
  have hvlt : ∀ b, b < n → vl tb n ar o a b < n := fun b hb => (vl_eq hw ho han hb).2
  generalize hv : vl tb n ar o a = v at hval hvlt
  generalize ar.getD o 0 = r at h2 ha hle
  have hbound : ∀ (b : Int) (K : Int → Int → Int → HF → RO), zjn K (fun j => if 1 < (r : Int) then zrd h (181 + 3) (d : Int) (fun x7 => j b x7 b h) else j b 1 b h) = K b ((clN n r : Nat) : Int) b h := by
    intro b K
    unfold clN
    simp only [zjn]
    by_cases q : r = 2
    · rw [if_pos (by omega), if_pos q, msz hd hr]
    · rw [if_neg (by omega), if_neg q]; rfl
  intro m
  induction m with
  | zero =>
    intro b N hb hN
    obtain ⟨N, rfl⟩ : ∃ M, N = M + 1 := ⟨N - 1, by omega⟩
    rw [LX12_isClosed_46, hbound, if_neg (by omega)]
    rfl
  | succ m ih =>
    intro b N hb hN
    obtain ⟨N, rfl⟩ : ∃ M, N = M + 1 := ⟨N - 1, by omega⟩
    rw [LX12_isClosed_46, hbound]
    simp only [zjn_eq, zlet_eq]
    have p1 := bit_of (x := x) (e := a) (by omega) (by omega)
    have p2 := bit_of (x := x) (e := b) (by omega) (by omega)
    have p3 := bit_of (x := x) (e := v b) (by omega) (by have := hvlt b (by omega); omega)
    have p4 := hval b (by omega)
    rw [if_pos (by omega)]
    simp only [p1, p2, p4, zbd_some, p3]
    rw [wr_s (by omega), ih (b + 1) N (by omega) (by omega), alB_s]
    have w0 : wi r x a b = ((decide (r < 1) || x.testBit a) && (decide (r < 2) || x.testBit b)) := rfl
    rw [w0]
    have hrc : r = 0 ∨ r = 1 ∨ r = 2 := by omega
    generalize x.testBit a = ta
    generalize x.testBit b = tb'
    generalize x.testBit (v b) = tv
    rcases hrc with rfl | rfl | rfl <;> cases ta <;> cases tb' <;> cases tv <;> rfl
theorem isC2 (hd : d < 10) (hw : WF n ar tb) (hr : RepM h 184 185 186 187 d n ar tb) (hF : 8 ≤ F) {o x : Nat} (ho : o < ar.length) (hx : x < 2 ^ n) {k142 : Int → HF → RO} {k128 : HF → RO} : ∀ (m a N : Nat), a + m = rwN n (ar.getD o 0) → m + 1 ≤ N → LX12_isClosed_23 F 181 (d : Int) (x : Int) (o : Int) ((ar.getD o 0 : Nat) : Int) k142 k128 N (a : Int) h = if alB (fun a => alB (fun b => !(wi (ar.getD o 0) x a b) || x.testBit (vl tb n ar o a b)) 0 (clN n (ar.getD o 0))) a m = true then k142 (o : Int) h else k128 h := by
  have hn := hw.1
  have h2 := hw.2.2.1 o ho
  have hle := rw_le (n := n) (r := ar.getD o 0) hn.1
  have hbound : ∀ (b : Int) (K : Int → Int → Int → HF → RO), zjn K (fun j => if 0 < ((ar.getD o 0 : Nat) : Int) then zrd h (181 + 3) (d : Int) (fun x7 => j b x7 b h) else j b 1 b h) = K b ((rwN n (ar.getD o 0) : Nat) : Int) b h := by
    intro b K
    unfold rwN
    simp only [zjn]
    by_cases q : ar.getD o 0 = 0
    · rw [if_neg (by omega), if_pos q]; rfl
    · rw [if_pos (by omega), if_neg q, msz hd hr]
  intro m
  induction m with
  | zero =>
    intro a N ha hN
    obtain ⟨N, rfl⟩ : ∃ M, N = M + 1 := ⟨N - 1, by omega⟩
    rw [LX12_isClosed_23, hbound, if_neg (by omega)]
    rfl
  | succ m ih =>
    intro a N ha hN
    obtain ⟨N, rfl⟩ : ∃ M, N = M + 1 := ⟨N - 1, by omega⟩
    rw [LX12_isClosed_23, hbound]
    simp only [zjn, zlet]
    rw [if_pos (by omega)]
    refine (isC3 (F := F) hd hw hr ho (show a < rwN n (ar.getD o 0) by omega) hx (clN n (ar.getD o 0)) 0 F (by omega) (by omega)).trans ?_
    rw [wr_s (by omega), ih (a + 1) N (by omega) (by omega), alB_s]
    generalize alB (fun b => !(wi (ar.getD o 0) x a b) || x.testBit (vl tb n ar o a b)) 0 (clN n (ar.getD o 0)) = w
    cases w <;> rfl
theorem isC1 (hd : d < 10) (hw : WF n ar tb) (hr : RepM h 184 185 186 187 d n ar tb) (hF : 8 ≤ F) {x : Nat} (hx : x < 2 ^ n) {k148 : HF → RO} {k128 : HF → RO} : ∀ (m o N : Nat), o + m = ar.length → m + 1 ≤ N → LX12_isClosed_2 F 181 (d : Int) (x : Int) k148 k128 N (o : Int) h = if alB (fun o => alB (fun a => alB (fun b => !(wi (ar.getD o 0) x a b) || x.testBit (vl tb n ar o a b)) 0 (clN n (ar.getD o 0))) 0 (rwN n (ar.getD o 0))) o m = true then k148 h else k128 h := by
  have hn := hw.1
  have hl := hw.2.1
  intro m
  induction m with
  | zero =>
    intro o N ho hN
    obtain ⟨N, rfl⟩ : ∃ M, N = M + 1 := ⟨N - 1, by omega⟩
    rw [LX12_isClosed_2, mops hd hr, if_neg (by omega)]
    rfl
  | succ m ih =>
    intro o N ho hN
    obtain ⟨N, rfl⟩ : ∃ M, N = M + 1 := ⟨N - 1, by omega⟩
    have hle := rw_le (n := n) (r := ar.getD o 0) hn.1
    rw [LX12_isClosed_2, mops hd hr, if_pos (by omega), marity_eq hd hw hr (by omega), zbd_some]
    simp only [zjn, zlet]
    refine (isC2 (F := F) hd hw hr hF (show o < ar.length by omega) hx (rwN n (ar.getD o 0)) 0 F (by omega) (by omega)).trans ?_
    rw [wr_s (by omega), ih (o + 1) N (by omega) (by omega), alB_s]
    generalize alB (fun a => alB (fun b => !(wi (ar.getD o 0) x a b) || x.testBit (vl tb n ar o a b)) 0 (clN n (ar.getD o 0))) 0 (rwN n (ar.getD o 0)) = w
    cases w <;> rfl
theorem isClosed_eq (hd : d < 10) (hw : WF n ar tb) (hr : RepM h 184 185 186 187 d n ar tb) (hF : 8 ≤ F) {x : Nat} (hx : x < 2 ^ n) : fX12_isClosed F 181 (d : Int) (x : Int) h = some (bi (clB tb n ar x), h) := by
  have hl := hw.2.1
  unfold fX12_isClosed
  simp only [zjn]
  refine (isC1 (F := F) hd hw hr hF hx (k148 := fun h => zrz 1 h) (k128 := fun h => zrz 0 h) ar.length 0 F (by omega) (by omega)).trans ?_
  show (if clB tb n ar x = true then zrz 1 h else zrz 0 h) = _
  cases clB tb n ar x <;> rfl
def cnP (p : Nat → Bool) : Nat → Nat → Nat → Nat
  | _, c, 0 => c
  | b, c, m + 1 => cnP p (b + 1) (if p b = true then c + 1 else c) m
def fdP (p : Nat → Bool) (k : Nat) : Nat → Nat → Nat → Option Nat
  | _, _, 0 => none
  | b, c, m + 1 => if p b = true then (if c = k then some b else fdP p k (b + 1) (c + 1) m) else fdP p k (b + 1) c m
theorem allB_eq (hn : n ≤ 7) (h0 : h A 0 = (n : Int)) : fX0_allBits F A h = some (((2 ^ n - 1 : Nat) : Int), h) := by
  unfold fX0_allBits
  simp only [zgf]
  rw [h0, full_eq hn]
theorem gr_dec (hw : WF n ar tb) {b : Nat} (hb : b < 2 ^ n) : (((grw tb n ar b : Nat) : Int) = (b : Int)) = (clB tb n ar b = true) := by
  apply propext
  rw [clB_iff, ← grw_cl hw hb]
  omega
theorem cPc (hk : kt A = 0 + 3) (hw : WF n ar tb) (hr : RepC h A n ar tb) (hF : 8 ≤ F) {k : Int → HF → RO} : ∀ (m b c N : Nat), b + m = 2 ^ n → c ≤ b → m + 1 ≤ N → LX0_partCount_4 F A k N (c : Int) (b : Int) h = k ((cnP (clB tb n ar) b c m : Nat) : Int) h := by
  have h7 := pw_7 hw.1.2
  intro m
  induction m with
  | zero =>
    intro b c N hb hc hN
    obtain ⟨N, rfl⟩ : ∃ M, N = M + 1 := ⟨N - 1, by omega⟩
    have : 0 < 2 ^ n := Nat.pow_pos (by decide)
    rw [LX0_partCount_4, allB_eq hw.1.2 hr.1, zbd_some, if_pos (by omega)]
    rfl
  | succ m ih =>
    intro b c N hb hc hN
    obtain ⟨N, rfl⟩ : ∃ M, N = M + 1 := ⟨N - 1, by omega⟩
    rw [LX0_partCount_4, allB_eq hw.1.2 hr.1, zbd_some, if_neg (by omega), grown_eq hk hw hr hF (by omega), zbd_some]
    simp only [zjn, zlet, gr_dec hw (show b < 2 ^ n by omega), cnP]
    rw [wr_s (by omega), wr_s (by omega)]
    by_cases q : clB tb n ar b = true
    · rw [if_pos q, if_pos q, ih (b + 1) (c + 1) N (by omega) (by omega) (by omega)]
    · rw [if_neg q, if_neg q, ih (b + 1) c N (by omega) (by omega) (by omega)]
theorem cPb (hk : kt A = 0 + 3) (hw : WF n ar tb) (hr : RepC h A n ar tb) (hF : 8 ≤ F) {kk : Nat} {k42 : HF → RO} {k31 : Int → HF → RO} : ∀ (m b c N : Nat), b + m = 2 ^ n → c ≤ b → c ≤ kk → m + 1 ≤ N → LX0_partBits_4 F A (kk : Int) k42 k31 N (c : Int) (b : Int) h = match fdP (clB tb n ar) kk b c m with
    | none => k42 h
    | some y => k31 (y : Int) h := by
  have h7 := pw_7 hw.1.2
  intro m
  induction m with
  | zero =>
    intro b c N hb hc hc2 hN
    obtain ⟨N, rfl⟩ : ∃ M, N = M + 1 := ⟨N - 1, by omega⟩
    have : 0 < 2 ^ n := Nat.pow_pos (by decide)
    rw [LX0_partBits_4, allB_eq hw.1.2 hr.1, zbd_some, if_pos (by omega)]
    rfl
  | succ m ih =>
    intro b c N hb hc hc2 hN
    obtain ⟨N, rfl⟩ : ∃ M, N = M + 1 := ⟨N - 1, by omega⟩
    rw [LX0_partBits_4, allB_eq hw.1.2 hr.1, zbd_some, if_neg (by omega), if_neg (by omega), grown_eq hk hw hr hF (by omega), zbd_some]
    simp only [zjn, zlet, gr_dec hw (show b < 2 ^ n by omega), fdP]
    rw [wr_s (by omega), wr_s (by omega)]
    by_cases q : clB tb n ar b = true
    · rw [if_pos q, if_pos q]
      by_cases q2 : c = kk
      · rw [if_pos (by omega), if_pos q2]
      · rw [if_neg (by omega), if_neg q2, ih (b + 1) (c + 1) N (by omega) (by omega) (by omega) (by omega)]
    · rw [if_neg q, if_neg q, ih (b + 1) c N (by omega) (by omega) (by omega) (by omega)]
theorem shl_n (hn : n ≤ 7) : wshl 1 (n : Int) = ((2 ^ n : Nat) : Int) := wshl_1 (by omega)
theorem mPc (hd : d < 10) (hw : WF n ar tb) (hr : RepM h 184 185 186 187 d n ar tb) (hF : 8 ≤ F) {k45 k33 : Int → HF → RO} : ∀ (m b c N : Nat), b + m = 2 ^ n → c ≤ b → m + 1 ≤ N → LX12_partOf_5 F 181 (d : Int) (-1) k45 k33 N (c : Int) (b : Int) h = k45 ((cnP (clB tb n ar) b c m : Nat) : Int) h := by
  have h7 := pw_7 hw.1.2
  intro m
  induction m with
  | zero =>
    intro b c N hb hc hN
    obtain ⟨N, rfl⟩ : ∃ M, N = M + 1 := ⟨N - 1, by omega⟩
    rw [LX12_partOf_5, msz hd hr, shl_n hw.1.2, if_neg (by omega)]
    rfl
  | succ m ih =>
    intro b c N hb hc hN
    obtain ⟨N, rfl⟩ : ∃ M, N = M + 1 := ⟨N - 1, by omega⟩
    rw [LX12_partOf_5, msz hd hr, shl_n hw.1.2, if_pos (by omega), isClosed_eq hd hw hr hF (by omega), zbd_some]
    simp only [zjn, zlet, cnP]
    rw [wr_s (by omega), wr_s (by omega), if_neg (show ¬ (c : Int) = -1 by omega)]
    cases q : clB tb n ar b
    · rw [bi_f, if_pos rfl, if_neg (by decide), ih (b + 1) c N (by omega) (by omega) (by omega)]
    · rw [bi_t, if_neg (by decide), if_pos rfl, ih (b + 1) (c + 1) N (by omega) (by omega) (by omega)]
theorem mPb (hd : d < 10) (hw : WF n ar tb) (hr : RepM h 184 185 186 187 d n ar tb) (hF : 8 ≤ F) {kk : Nat} {k33 : Int → HF → RO} {w : Int} : ∀ (m b c N : Nat), b + m = 2 ^ n → c ≤ b → m + 1 ≤ N → LX12_partOf_5 F 181 (d : Int) (kk : Int) (fun _ h => some (w, h)) k33 N (c : Int) (b : Int) h = match fdP (clB tb n ar) kk b c m with
    | none => some (w, h)
    | some y => k33 (y : Int) h := by
  have h7 := pw_7 hw.1.2
  intro m
  induction m with
  | zero =>
    intro b c N hb hc hN
    obtain ⟨N, rfl⟩ : ∃ M, N = M + 1 := ⟨N - 1, by omega⟩
    rw [LX12_partOf_5, msz hd hr, shl_n hw.1.2, if_neg (by omega)]
    rfl
  | succ m ih =>
    intro b c N hb hc hN
    obtain ⟨N, rfl⟩ : ∃ M, N = M + 1 := ⟨N - 1, by omega⟩
    rw [LX12_partOf_5, msz hd hr, shl_n hw.1.2, if_pos (by omega), isClosed_eq hd hw hr hF (by omega), zbd_some]
    simp only [zjn, zlet, fdP]
    rw [wr_s (by omega), wr_s (by omega)]
    cases q : clB tb n ar b
    · rw [bi_f, if_pos rfl, if_neg (by decide), ih (b + 1) c N (by omega) (by omega) (by omega)]
    · rw [bi_t, if_neg (by decide), if_pos rfl]
      by_cases q2 : c = kk
      · rw [if_pos (by omega), if_pos q2]
      · rw [if_neg (by omega), if_neg q2, ih (b + 1) (c + 1) N (by omega) (by omega) (by omega)]
theorem and_sbs {x y : Nat} : x &&& y = y ↔ sbs y x := by
  constructor
  · intro e j q
    rw [← e, Nat.testBit_and, Bool.and_eq_true] at q
    exact q.1
  · intro q
    apply bit_ext
    intro j
    rw [Nat.testBit_and, Bool.and_eq_true]
    exact ⟨fun z => z.2, fun z => ⟨q j z, z⟩⟩
theorem mSp (hd : d < 10) (hw : WF n ar tb) (hr : RepM h 184 185 186 187 d n ar tb) (hF : 8 ≤ F) {u : Nat} (hu : u < 2 ^ n) {k : Int → HF → RO} : ∀ (m s l N : Nat), s + m = 2 ^ n → l < 2 ^ n → m + 1 ≤ N → ∃ y : Nat, LX12_span_55 F 181 (d : Int) (u : Int) ((2 ^ n - 1 : Nat) : Int) k N (l : Int) (s : Int) h = k (y : Int) h ∧ ∀ j, y.testBit j = true ↔ (l.testBit j = true ∧ ∀ s', s ≤ s' → s' < 2 ^ n → sbs u s' → clP tb n ar s' → s'.testBit j = true) := by
  have h7 := pw_7 hw.1.2
  have hp0 : 0 < 2 ^ n := Nat.pow_pos (by decide)
  intro m
  induction m with
  | zero =>
    intro s l N hs hl hN
    obtain ⟨N, rfl⟩ : ∃ M, N = M + 1 := ⟨N - 1, by omega⟩
    rw [LX12_span_55, if_pos (by omega)]
    exact ⟨l, rfl, fun j => ⟨fun q => ⟨q, fun s' h1 h2 => absurd h2 (by omega)⟩, fun q => q.1⟩⟩
  | succ m ih =>
    intro s l N hs hl hN
    obtain ⟨N, rfl⟩ : ∃ M, N = M + 1 := ⟨N - 1, by omega⟩
    rw [LX12_span_55, if_neg (by omega), wand_N (by omega) (by omega)]
    simp only [zjn, zlet, isClosed_eq hd hw hr hF (show s < 2 ^ n by omega), zbd_some]
    rw [wr_s (by omega), wand_N (by omega) (by omega)]
    have skip : (¬ (sbs u s ∧ clP tb n ar s)) → ∃ y : Nat, LX12_span_55 F 181 (d : Int) (u : Int) ((2 ^ n - 1 : Nat) : Int) k N (l : Int) ((s + 1 : Nat) : Int) h = k (y : Int) h ∧ ∀ j, y.testBit j = true ↔ (l.testBit j = true ∧ ∀ s', s ≤ s' → s' < 2 ^ n → sbs u s' → clP tb n ar s' → s'.testBit j = true) := by
      intro z
      obtain ⟨y, e1, e2⟩ := ih (s + 1) l N (by omega) hl (by omega)
      refine ⟨y, e1, fun j => ?_⟩
      rw [e2]
      constructor
      · rintro ⟨w1, w2⟩
        refine ⟨w1, fun s' v1 v2 v3 v4 => ?_⟩
        by_cases v : s' = s
        · subst v; exact absurd ⟨v3, v4⟩ z
        · exact w2 s' (by omega) v2 v3 v4
      · rintro ⟨w1, w2⟩
        exact ⟨w1, fun s' v1 v2 v3 v4 => w2 s' (by omega) v2 v3 v4⟩
    by_cases q : s &&& u = u
    · rw [if_pos (by rw [q])]
      cases q2 : clB tb n ar s
      · rw [bi_f, if_pos rfl]
        exact skip (fun z => by rw [← clB_iff, q2] at z; exact absurd z.2 (by decide))
      · rw [bi_t, if_neg (by decide)]
        have hc := clB_iff.mp q2
        obtain ⟨y, e1, e2⟩ := ih (s + 1) (l &&& s) N (by omega) (by have := Nat.and_le_left (n := l) (m := s); omega) (by omega)
        refine ⟨y, e1, fun j => ?_⟩
        rw [e2, Nat.testBit_and, Bool.and_eq_true]
        constructor
        · rintro ⟨⟨w0, w1⟩, w2⟩
          refine ⟨w0, fun s' v1 v2 v3 v4 => ?_⟩
          by_cases v : s' = s
          · subst v; exact w1
          · exact w2 s' (by omega) v2 v3 v4
        · rintro ⟨w1, w2⟩
          exact ⟨⟨w1, w2 s (Nat.le_refl _) (by omega) (and_sbs.mp q) hc⟩, fun s' v1 v2 v3 v4 => w2 s' (by omega) v2 v3 v4⟩
    · rw [if_neg (by omega)]
      exact skip (fun z => q (and_sbs.mpr z.1))
end IC
