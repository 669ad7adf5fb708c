def bt (x : Int32) (i : Nat) : Bool := x.toBitVec.getLsbD i
theorem b_ext {x y : Int32} (h : ∀ i, i < 32 → bt x i = bt y i) : x = y := Int32.toBitVec_inj.mp (BitVec.eq_of_getLsbD_eq (fun i hi => h i hi))
theorem b_or (x y : Int32) (i : Nat) : bt (x ||| y) i = (bt x i || bt y i) := by unfold bt; rw [Int32.toBitVec_or, BitVec.getLsbD_or]
theorem b_and (x y : Int32) (i : Nat) : bt (x &&& y) i = (bt x i && bt y i) := by unfold bt; rw [Int32.toBitVec_and, BitVec.getLsbD_and]
theorem b_xor (x y : Int32) (i : Nat) : bt (x ^^^ y) i = (bt x i ^^ bt y i) := by unfold bt; rw [Int32.toBitVec_xor, BitVec.getLsbD_xor]
theorem b_big {x : Int32} {i : Nat} (h : 32 ≤ i) : bt x i = false := BitVec.getLsbD_of_ge _ _ h
theorem b_255 (i : Nat) : bt 255 i = decide (i < 8) := by
  rcases Nat.lt_or_ge i 32 with h | h
  · exact (by decide +kernel : ∀ i, i < 32 → bt 255 i = decide (i < 8)) i h
  · rw [b_big h, decide_eq_false (by omega)]
theorem b_65535 (i : Nat) : bt 65535 i = decide (i < 16) := by
  rcases Nat.lt_or_ge i 32 with h | h
  · exact (by decide +kernel : ∀ i, i < 32 → bt 65535 i = decide (i < 16)) i h
  · rw [b_big h, decide_eq_false (by omega)]
theorem b_m1 : ∀ i, i < 32 → bt (-1) i = true := by decide +kernel
theorem b_0 (i : Nat) : bt 0 i = false := BitVec.getLsbD_zero
theorem s_l : ∀ n, n < 32 → ((nI n &&& 31).toBitVec.smod 32).toNat = n := by decide +kernel
theorem s_u : ∀ n, n < 32 → (((nI n).toUInt32 &&& Int32.toUInt32 31).toBitVec % 32).toNat = n := by decide +kernel
theorem b_shl (n : Nat) (hn : n < 32) (x : Int32) {i : Nat} (hi : i < 32) : bt (x <<< (nI n &&& 31)) i = (decide (n ≤ i) && bt x (i - n)) := by
  unfold bt
  rw [Int32.toBitVec_shiftLeft]
  show (x.toBitVec <<< ((nI n &&& 31).toBitVec.smod 32).toNat).getLsbD i = _
  rw [s_l n hn, BitVec.getLsbD_shiftLeft]
  rcases Nat.lt_or_ge i n with h | h
  · simp [h, Nat.not_le.mpr h]
  · simp [hi, h, Nat.not_lt.mpr h]
theorem b_ushr (n : Nat) (hn : n < 32) (x : Int32) (i : Nat) : bt ((x.toUInt32 >>> ((nI n).toUInt32 &&& Int32.toUInt32 31)).toInt32) i = bt x (n + i) := by
  show (x.toUInt32 >>> ((nI n).toUInt32 &&& Int32.toUInt32 31)).toBitVec.getLsbD i = x.toUInt32.toBitVec.getLsbD (n + i)
  rw [UInt32.toBitVec_shiftRight]
  show (x.toUInt32.toBitVec >>> (((nI n).toUInt32 &&& Int32.toUInt32 31).toBitVec % 32).toNat).getLsbD i = _
  rw [s_u n hn, BitVec.getLsbD_ushiftRight]
theorem b_sshr (n : Nat) (hn : n < 32) (x : Int32) {i : Nat} (hi : i < 32) : bt (x >>> (nI n &&& 31)) i = if n + i < 32 then bt x (n + i) else bt x 31 := by
  unfold bt
  rw [Int32.toBitVec_shiftRight]
  show (x.toBitVec.sshiftRight ((nI n &&& 31).toBitVec.smod 32).toNat).getLsbD i = _
  rw [s_l n hn, BitVec.getLsbD_sshiftRight, BitVec.msb_eq_getLsbD_last]
  simp [hi]
theorem b_shl8 (x : Int32) {i : Nat} (hi : i < 32) : bt (x <<< ((8 : Int32) &&& 31)) i = (decide (8 ≤ i) && bt x (i - 8)) := b_shl 8 (by omega) x hi
theorem b_shl16 (x : Int32) {i : Nat} (hi : i < 32) : bt (x <<< ((16 : Int32) &&& 31)) i = (decide (16 ≤ i) && bt x (i - 16)) := b_shl 16 (by omega) x hi
theorem b_shl24 (x : Int32) {i : Nat} (hi : i < 32) : bt (x <<< ((24 : Int32) &&& 31)) i = (decide (24 ≤ i) && bt x (i - 24)) := b_shl 24 (by omega) x hi
theorem b_sshr8 (x : Int32) {i : Nat} (hi : i < 32) : bt (x >>> ((8 : Int32) &&& 31)) i = if 8 + i < 32 then bt x (8 + i) else bt x 31 := b_sshr 8 (by omega) x hi
/-! PURE PART: no machine from here on -/
def Ev (x : RO) (P : Int → HF → Prop) : Prop := ∃ r h', x = some (r, h') ∧ P r h'
theorem Ev.ret {r : Int} {h : HF} {P : Int → HF → Prop} (hp : P r h) : Ev (some (r, h)) P := ⟨r, h, rfl, hp⟩
theorem Ev.bd {x : RO} {k : Int → HF → RO} {P Q : Int → HF → Prop} (hx : Ev x P) (hk : ∀ r h, P r h → Ev (k r h) Q) : Ev (zbd x k) Q := by
  obtain ⟨r, h, rfl, hp⟩ := hx
  exact hk r h hp
theorem Ev.mono {x : RO} {P Q : Int → HF → Prop} (hx : Ev x P) (h : ∀ r h, P r h → Q r h) : Ev x Q := by
  obtain ⟨r, h', e, hp⟩ := hx
  exact ⟨r, h', e, h r h' hp⟩
theorem zbd_some (r : Int) (h : HF) (k : Int → HF → RO) : zbd (some (r, h)) k = k r h := rfl
theorem zrz_0 (h : HF) : zrz 0 h = some (0, h) := rfl
theorem zrz_1 (h : HF) : zrz 1 h = some (1, h) := rfl
theorem zrd_ok {h : HF} {a : Nat} {i : Int} {f : Int → RO} (hb : 0 ≤ i ∧ i < (kl a : Int)) : zrd h a i f = f (h a i.toNat) := if_pos hb
theorem zwr_ok {h : HF} {a : Nat} {i v : Int} {f : HF → RO} (hb : 0 ≤ i ∧ i < (kl a : Int)) : zwr h a i v f = f (stp h a i.toNat v) := if_pos hb
theorem zrs_ok {a : Nat} {i : Int} {f : Nat → RO} (hb : 0 ≤ i ∧ i < (kl a : Int)) : zrs a i f = f (zsa a i.toNat) := if_pos hb
theorem stp_eq (h : HF) (c k : Nat) (v : Int) : stp h c k v c k = v := by rw [stp_on]; simp
theorem stp_ne {h : HF} {c k : Nat} {v : Int} {c' k' : Nat} (hne : c' ≠ c ∨ k' ≠ k) : stp h c k v c' k' = h c' k' := by
  by_cases hc : c' = c
  · subst hc
    rw [stp_on]
    have : k' ≠ k := hne.resolve_left (fun q => q rfl)
    simp [this]
  · rw [stp_off hc]
/-- what a group of places holds, and nothing else of the heap: for frames -/
def msk (S : Nat → Nat → Bool) (h : HF) : HF := fun c k => if S c k = true then h c k else 0
theorem msk_eq {S : Nat → Nat → Bool} {h h' : HF} (e : ∀ c k, S c k = true → h' c k = h c k) : msk S h' = msk S h := by
  funext c k
  unfold msk
  by_cases q : S c k = true
  · rw [if_pos q, if_pos q, e c k q]
  · rw [if_neg q, if_neg q]
/-- bytes: the list t stands in the array a, its length in place k of the object o -/
def TP (h : HF) (o k a : Nat) (t : List Int) : Prop := h o k = (t.length : Int) ∧ ∀ i, i < t.length → h a i = t.getD i 0
def psh (h : HF) (o k a n : Nat) (v : Int) : HF := stp (stp h a n v) o k ((n : Int) + 1)
theorem TP_push {h : HF} {o k a : Nat} {t : List Int} {v : Int} (ht : TP h o k a t) (hoa : o ≠ a) : TP (psh h o k a t.length v) o k a (t ++ [v]) := by
  unfold psh
  refine ⟨by rw [stp_eq]; simp, fun i hi => ?_⟩
  rw [stp_ne (Or.inl (fun q => hoa q.symm))]
  simp only [List.length_append, List.length_cons, List.length_nil] at hi
  by_cases e : i = t.length
  · subst e
    rw [stp_eq]
    simp [List.getD_eq_getElem?_getD]
  · rw [stp_ne (Or.inr e), ht.2 i (by omega)]
    rw [List.getD_eq_getElem?_getD, List.getD_eq_getElem?_getD, List.getElem?_append_left (by omega)]
theorem psh_off {h : HF} {o k a n : Nat} {v : Int} {c' k' : Nat} (h1 : c' ≠ a) (h2 : c' ≠ o ∨ k' ≠ k) : psh h o k a n v c' k' = h c' k' := by
  unfold psh
  rw [stp_ne h2, stp_ne (Or.inl h1)]
-- the bytes of a number: class (>>>) and reference (>>) take the same
theorem byte_eq (a : Int) {s : Nat} (hs : s = 24 ∨ s = 16 ∨ s = 8 ∨ s = 0) : wand (wushr a (s : Int)) 255 = wand (wshr a (s : Int)) 255 := by
  unfold wand wushr wshr
  rw [ti_ii, ti_ii]
  congr 1
  have e : ii (s : Int) = nI s := rfl
  have e5 : ii 255 = (255 : Int32) := rfl
  rw [e, e5]
  apply b_ext
  intro i hi
  rw [b_and, b_and, b_255]
  by_cases q : i < 8
  · rw [b_ushr s (by omega), b_sshr s (by omega) _ hi, if_pos (by omega)]
  · simp [q]
theorem byte_rng (x : Int) : 0 ≤ wand x 255 ∧ wand x 255 ≤ 255 := by
  unfold wand
  have e := pk_and (ii x) (m := ii 255) 8 (by decide)
  rw [e, nI_toInt (by omega)]
  omega
def byt (a : Int) (s : Nat) : Int := wand (wushr a (s : Int)) 255
def fourB (a : Int) : List Int := [byt a 24, byt a 16, byt a 8, byt a 0]
theorem addByte_eq {F a : Nat} {t : List Int} {v : Int} {h : HF} (ht : TP h a 1 (a + 1) t) (hc : t.length < kl (a + 1)) (hk : kl (a + 1) < 4000) : fX1_addByte F a v h = some (0, psh h a 1 (a + 1) t.length (wand v 255)) := by
  have e0 := ht.1
  unfold fX1_addByte fX1_hasRoom
  simp only [zgf, zjn, e0]
  rw [wr_id ⟨by omega, by omega⟩, if_neg (by omega), zrz_1, zbd_some, if_neg (by decide), e0, zwr_ok ⟨by omega, by omega⟩]
  simp only [Int.toNat_natCast]
  rw [stp_ne (Or.inl (show a ≠ a + 1 by omega)), e0, wr_id ⟨by omega, by omega⟩]
  rfl
theorem hasRoom_eq {F a : Nat} {n : Int} {t : List Int} {h : HF} (ht : TP h a 1 (a + 1) t) (hn : 0 ≤ n ∧ n ≤ 100) (hl : t.length ≤ 4000) : fX1_hasRoom F a n h = some (if (kl (a + 1) : Int) < (t.length : Int) + n then 0 else 1, h) := by
  have e0 := ht.1
  unfold fX1_hasRoom
  simp only [zgf, zjn, e0]
  rw [wr_id ⟨by omega, by omega⟩]
  by_cases q : (kl (a + 1) : Int) < (t.length : Int) + n
  · rw [if_pos q, if_pos q]; rfl
  · rw [if_neg q, if_neg q]; rfl
/-- four bytes more -/
def psh4 (h : HF) (o k a n : Nat) (w : List Int) : HF := psh (psh (psh (psh h o k a n (w.getD 0 0)) o k a (n + 1) (w.getD 1 0)) o k a (n + 2) (w.getD 2 0)) o k a (n + 3) (w.getD 3 0)
theorem TP_push4 {h : HF} {o k a : Nat} {t : List Int} {v : Int} (ht : TP h o k a t) (hoa : o ≠ a) : TP (psh4 h o k a t.length (fourB v)) o k a (t ++ fourB v) := by
  have h1 := TP_push (v := byt v 24) ht hoa
  have h2 := TP_push (v := byt v 16) h1 hoa
  have h3 := TP_push (v := byt v 8) h2 hoa
  have h4 := TP_push (v := byt v 0) h3 hoa
  simp only [List.length_append, List.length_cons, List.length_nil, List.append_assoc, List.cons_append, List.nil_append] at h4
  exact h4
theorem psh4_off {h : HF} {o k a n : Nat} {w : List Int} {c' k' : Nat} (h1 : c' ≠ a) (h2 : c' ≠ o ∨ k' ≠ k) : psh4 h o k a n w c' k' = h c' k' := by
  unfold psh4
  rw [psh_off h1 h2, psh_off h1 h2, psh_off h1 h2, psh_off h1 h2]
theorem addNumber_eq {F a : Nat} {t : List Int} {v : Int} {h : HF} (hF : 5 ≤ F) (ht : TP h a 1 (a + 1) t) (hc : t.length + 4 ≤ kl (a + 1)) (hk : kl (a + 1) < 4000) : fX1_addNumber F a v h = some (0, psh4 h a 1 (a + 1) t.length (fourB v)) := by
  obtain ⟨n, rfl⟩ : ∃ n, F = n + 5 := ⟨F - 5, by omega⟩
  have hoa : a ≠ a + 1 := by omega
  unfold fX1_addNumber
  simp only [zjn]
  have h1 := TP_push (v := wand (wushr v 24) 255) ht hoa
  have h2 := TP_push (v := wand (wushr v 16) 255) h1 hoa
  have h3 := TP_push (v := wand (wushr v 8) 255) h2 hoa
  rw [LX1_addNumber_3, if_neg (by decide), addByte_eq ht (by omega) hk, zbd_some]
  simp only [zlet]
  rw [show wr (24 + (-8)) = 16 by decide, LX1_addNumber_3, if_neg (by decide), addByte_eq h1 (by simp; omega) hk, zbd_some]
  simp only [zlet]
  rw [show wr (16 + (-8)) = 8 by decide, LX1_addNumber_3, if_neg (by decide), addByte_eq h2 (by simp; omega) hk, zbd_some]
  simp only [zlet]
  rw [show wr (8 + (-8)) = 0 by decide, LX1_addNumber_3, if_neg (by decide), addByte_eq h3 (by simp; omega) hk, zbd_some]
  simp only [zlet]
  rw [show wr (0 + (-8)) = -8 by decide, LX1_addNumber_3, if_pos (by decide)]
  simp only [List.length_append, List.length_cons, List.length_nil]
  rfl
-- the reference's four bytes
theorem four_step {F n : Nat} {t : List Int} {v : Int} {k : HF → RO} {h : HF} {s : Nat} (hs : s = 24 ∨ s = 16 ∨ s = 8 ∨ s = 0) (ht : TP h 181 2 182 t) (hc : t.length < 400) : LX12_four_3 F 181 v k (n + 1) (s : Int) h = LX12_four_3 F 181 v k n ((s : Int) - 8) (psh h 181 2 182 t.length (byt v s)) := by
  have e0 := ht.1
  rw [LX12_four_3, if_neg (by omega)]
  simp only [zgf, e0, zlet]
  rw [zwr_ok ⟨by omega, by show _ < ((400 : Nat) : Int); omega⟩]
  simp only [Int.toNat_natCast, zpf]
  rw [stp_ne (Or.inl (show (181 : Nat) ≠ 181 + 1 by decide)), e0, wr_id ⟨by omega, by omega⟩, wr_id ⟨by omega, by omega⟩, ← byte_eq v hs]
  rfl
theorem four_eq {F : Nat} {t : List Int} {v : Int} {h : HF} (hF : 5 ≤ F) (ht : TP h 181 2 182 t) (hc : t.length + 4 ≤ 400) : fX12_four F 181 v h = some (0, psh4 h 181 2 182 t.length (fourB v)) := by
  obtain ⟨n, rfl⟩ : ∃ n, F = n + 5 := ⟨F - 5, by omega⟩
  have hoa : (181 : Nat) ≠ 182 := by decide
  have h1 := TP_push (v := byt v 24) ht hoa
  have h2 := TP_push (v := byt v 16) h1 hoa
  have h3 := TP_push (v := byt v 8) h2 hoa
  unfold fX12_four
  simp only [zjn]
  have s1 := four_step (F := n + 5) (n := n + 4) (v := v) (k := fun h => some (0, h)) (s := 24) (by decide) ht (by omega)
  have s2 := four_step (F := n + 5) (n := n + 3) (v := v) (k := fun h => some (0, h)) (s := 16) (by decide) h1 (by simp; omega)
  have s3 := four_step (F := n + 5) (n := n + 2) (v := v) (k := fun h => some (0, h)) (s := 8) (by decide) h2 (by simp; omega)
  have s4 := four_step (F := n + 5) (n := n + 1) (v := v) (k := fun h => some (0, h)) (s := 0) (by decide) h3 (by simp; omega)
  refine s1.trans (s2.trans (s3.trans (s4.trans ?_)))
  rw [LX12_four_3, if_pos (by decide)]
  simp only [List.length_append, List.length_cons, List.length_nil]
  rfl
-- both sides' feed
def fiveB (a b c d e : Int) : List Int := fourB a ++ fourB b ++ fourB c ++ fourB d ++ fourB e
theorem fiveB_app (t : List Int) (a b c d e : Int) : t ++ fourB a ++ fourB b ++ fourB c ++ fourB d ++ fourB e = t ++ fiveB a b c d e := by unfold fiveB; simp only [List.append_assoc]
theorem fourB_len (a : Int) : (fourB a).length = 4 := rfl
theorem c_feed {F : Nat} {t : List Int} {a b c d e : Int} {h : HF} (hF : 5 ≤ F) (ht : TP h 1 1 2 t) (hl : t.length ≤ 400) :
    (380 < t.length → fX11_feed F 0 a b c d e h = some (-5, h)) ∧ (t.length ≤ 380 → ∃ h', fX11_feed F 0 a b c d e h = some ((t.length : Int) + 20, h') ∧ TP h' 1 1 2 (t ++ fiveB a b c d e) ∧ ∀ c' k', c' ≠ 2 → (c' ≠ 1 ∨ k' ≠ 1) → h' c' k' = h c' k') := by
  have k2 : kl 2 = 400 := by decide
  have hr : fX1_hasRoom F (0 + 1) 20 h = some (if (kl 2 : Int) < (t.length : Int) + 20 then 0 else 1, h) := hasRoom_eq (a := 1) ht (by decide) (by omega)
  unfold fX11_feed
  rw [hr, zbd_some]
  refine ⟨fun q => ?_, fun q => ?_⟩
  · rw [if_pos (by omega)]
  · rw [if_neg (by omega)]
    have n1 := addNumber_eq (F := F) (a := 1) (v := a) hF ht (by show _ ≤ kl 2; omega) (by decide)
    have t1 := TP_push4 (v := a) ht (by decide)
    have n2 := addNumber_eq (F := F) (a := 1) (v := b) hF t1 (by show _ ≤ kl 2; simp [fourB_len]; omega) (by decide)
    have t2 := TP_push4 (v := b) t1 (by decide)
    have n3 := addNumber_eq (F := F) (a := 1) (v := c) hF t2 (by show _ ≤ kl 2; simp [fourB_len]; omega) (by decide)
    have t3 := TP_push4 (v := c) t2 (by decide)
    have n4 := addNumber_eq (F := F) (a := 1) (v := d) hF t3 (by show _ ≤ kl 2; simp [fourB_len]; omega) (by decide)
    have t4 := TP_push4 (v := d) t3 (by decide)
    have n5 := addNumber_eq (F := F) (a := 1) (v := e) hF t4 (by show _ ≤ kl 2; simp [fourB_len]; omega) (by decide)
    have t5 := TP_push4 (v := e) t4 (by decide)
    refine ⟨_, ?_, fiveB_app t a b c d e ▸ t5, fun c' k' h1 h2 => ?_⟩
    · show zbd (fX1_addNumber F 1 a h) _ = _
      rw [n1, zbd_some]
      show zbd (fX1_addNumber F 1 b _) _ = _
      rw [n2, zbd_some]
      show zbd (fX1_addNumber F 1 c _) _ = _
      rw [n3, zbd_some]
      show zbd (fX1_addNumber F 1 d _) _ = _
      rw [n4, zbd_some]
      show zbd (fX1_addNumber F 1 e _) _ = _
      rw [n5, zbd_some]
      show some (_, _) = some (_, _)
      rw [t5.1]
      simp [fourB_len]
    · rw [psh4_off h1 h2, psh4_off h1 h2, psh4_off h1 h2, psh4_off h1 h2, psh4_off h1 h2]
theorem m_feed {F : Nat} {t : List Int} {a b c d e : Int} {h : HF} (hF : 5 ≤ F) (ht : TP h 181 2 182 t) (hl : t.length ≤ 400) :
    ∃ h', fX12_feed F 181 a b c d e h = some (if 380 < t.length then -5 else (t.length : Int) + 20, h') ∧ TP h' 181 2 182 (if 380 < t.length then t else t ++ fiveB a b c d e) ∧ ∀ c' k', c' ≠ 182 → (c' ≠ 181 ∨ (k' ≠ 2 ∧ k' ≠ 0)) → h' c' k' = h c' k' := by
  have ht0 : TP (stp h 181 0 0) 181 2 182 t := ⟨by rw [stp_ne (Or.inr (by decide))]; exact ht.1, fun i hi => by rw [stp_ne (Or.inl (by decide))]; exact ht.2 i hi⟩
  have hoff : ∀ c' k' : Nat, (c' ≠ 181 ∨ (k' ≠ 2 ∧ k' ≠ 0)) → stp h 181 0 0 c' k' = h c' k' := fun c' k' hq => stp_ne (by rcases hq with q | q; exact Or.inl q; exact Or.inr q.2)
  generalize hh : stp h 181 0 0 = h0 at ht0 hoff
  have e0 := ht0.1
  unfold fX12_feed
  simp only [zpf, zgf, hh, e0]
  rw [wr_id ⟨by omega, by omega⟩]
  by_cases q : 380 < t.length
  · rw [if_pos (by omega), if_pos q, if_pos q]
    exact ⟨h0, rfl, ht0, fun c' k' _ h2 => hoff c' k' h2⟩
  · rw [if_neg (by omega), if_neg q, if_neg q]
    have n1 := four_eq (F := F) (v := a) hF ht0 (by omega)
    have t1 := TP_push4 (v := a) ht0 (by decide)
    have n2 := four_eq (F := F) (v := b) hF t1 (by simp [fourB_len]; omega)
    have t2 := TP_push4 (v := b) t1 (by decide)
    have n3 := four_eq (F := F) (v := c) hF t2 (by simp [fourB_len]; omega)
    have t3 := TP_push4 (v := c) t2 (by decide)
    have n4 := four_eq (F := F) (v := d) hF t3 (by simp [fourB_len]; omega)
    have t4 := TP_push4 (v := d) t3 (by decide)
    have n5 := four_eq (F := F) (v := e) hF t4 (by simp [fourB_len]; omega)
    have t5 := TP_push4 (v := e) t4 (by decide)
    refine ⟨_, ?_, fiveB_app t a b c d e ▸ t5, fun c' k' h1 h2 => ?_⟩
    · rw [n1, zbd_some, n2, zbd_some, n3, zbd_some, n4, zbd_some, n5, zbd_some, t5.1]
      simp [fourB_len]
    · have h3 : c' ≠ 181 ∨ k' ≠ 2 := by rcases h2 with q | q; exact Or.inl q; exact Or.inr q.1
      rw [psh4_off h1 h3, psh4_off h1 h3, psh4_off h1 h3, psh4_off h1 h3, psh4_off h1 h3, hoff c' k' h2]
