/-! THE LAYER: one abstract heap for the class and the reference. A cell has a number below zNC; its address is B + its number. h c k: what place k of cell c holds, as an Int (an int by its value; a reference by its cell's number, -1 for null). -/
abbrev HF : Type := Nat → Nat → Int
abbrev RO : Type := Option (Int × HF)
-- numbers
def wr (x : Int) : Int := x.bmod 4294967296
abbrev rng (x : Int) : Prop := -2147483648 ≤ x ∧ x < 2147483648
abbrev ii (x : Int) : Int32 := Int32.ofInt x
theorem ii_ti {x : Int} (h : rng x) : (ii x).toInt = x := Int32.toInt_ofInt_of_le h.1 h.2
theorem ti_ii (x : Int32) : ii x.toInt = x := Int32.ofInt_toInt x
theorem rng_ti (x : Int32) : rng x.toInt := ⟨x.le_toInt, x.toInt_lt⟩
theorem rng_wr (x : Int) : rng (wr x) := by unfold wr rng; constructor <;> (have := Int.bmod_lt (x := x) (m := 4294967296) (by decide); have := Int.le_bmod (x := x) (m := 4294967296) (by decide); omega)
theorem wr_id {x : Int} (h : rng x) : wr x = x := by unfold wr; exact Int.bmod_eq_of_le (by have := h.1; omega) (by have := h.2; omega)
theorem ii_add (a b : Int) : ii a + ii b = ii (wr (a + b)) := by
  apply Int32.toInt_inj.mp
  rw [ii_ti (rng_wr _), Int32.toInt_add, Int32.toInt_ofInt, Int32.toInt_ofInt]
  show _ = (a + b).bmod 4294967296
  simp [Int32.size]
theorem ii_sub (a b : Int) : ii a - ii b = ii (wr (a - b)) := by
  apply Int32.toInt_inj.mp
  rw [ii_ti (rng_wr _), Int32.toInt_sub, Int32.toInt_ofInt, Int32.toInt_ofInt]
  show _ = (a - b).bmod 4294967296
  simp [Int32.size]
theorem ii_mul (a b : Int) : ii a * ii b = ii (wr (a * b)) := by
  apply Int32.toInt_inj.mp
  rw [ii_ti (rng_wr _), Int32.toInt_mul, Int32.toInt_ofInt, Int32.toInt_ofInt]
  show _ = (a * b).bmod 4294967296
  simp [Int32.size]
theorem ii_eq {a b : Int} (ha : rng a) (hb : rng b) : ii a = ii b ↔ a = b := ⟨fun h => by rw [← ii_ti ha, h, ii_ti hb], fun h => by rw [h]⟩
theorem ii_lt {a b : Int} (ha : rng a) (hb : rng b) : ii a < ii b ↔ a < b := by rw [Int32.lt_iff_toInt_lt, ii_ti ha, ii_ti hb]
theorem ii_le {a b : Int} (ha : rng a) (hb : rng b) : ii a ≤ ii b ↔ a ≤ b := by rw [Int32.le_iff_toInt_le, ii_ti ha, ii_ti hb]
theorem ii_0 : ii 0 = 0 := rfl
theorem ii_cl {a : Int} (ha : rng a) : (ii a).toNatClampNeg = a.toNat := by rw [← Int32.toNat_toInt, ii_ti ha]
theorem ii_in {a : Int} {n : Nat} (ha : rng a) (h : 0 ≤ a ∧ a < n) : vp_in (ii a) n := vp_in_iff.mpr (by rw [ii_ti ha]; exact h)
-- the bit operations, by the machine's own
def wand (a b : Int) : Int := (ii a &&& ii b).toInt
def wor (a b : Int) : Int := (ii a ||| ii b).toInt
def wshl (a b : Int) : Int := (ii a <<< (ii b &&& 31)).toInt
def wshr (a b : Int) : Int := (ii a >>> (ii b &&& 31)).toInt
def wushr (a b : Int) : Int := ((ii a).toUInt32 >>> ((ii b).toUInt32 &&& Int32.toUInt32 31)).toInt32.toInt
def wdiv (a b : Int) : Int := wr (a.tdiv b)
def wrem (a b : Int) : Int := wr (a - wr (wdiv a b * b))
theorem ii_div {a b : Int} (ha : rng a) (hb : rng b) : ii a / ii b = ii (wdiv a b) := by
  apply Int32.toInt_inj.mp
  rw [Int32.toInt_div, ii_ti ha, ii_ti hb]
  unfold wdiv
  rw [ii_ti (rng_wr _)]
  rfl
theorem ii_rem {a b : Int} (ha : rng a) (hb : rng b) : ii a - ii a / ii b * ii b = ii (wrem a b) := by
  rw [ii_div ha hb, ii_mul, ii_sub]; rfl
-- the pure words that the lifted methods are made of
def stp (h : HF) (c k : Nat) (v : Int) : HF := fun c' => if c' = c then (fun k' => if k' = k then v else h c k') else h c'
def zgf (h : HF) (a k : Nat) (f : Int → RO) : RO := f (h a k)
def zpf (h : HF) (a k : Nat) (v : Int) (f : HF → RO) : RO := f (stp h a k v)
def zgd (h : HF) (a k : Nat) (f : Nat → RO) : RO := if 0 ≤ h a k then f (h a k).toNat else none
def zlet (v : Int) (f : Int → RO) : RO := f v
def zdv (b : Int) (f : RO) : RO := if b = 0 then none else f
def zbd (x : RO) (k : Int → HF → RO) : RO := match x with
  | none => none
  | some q => k q.1 q.2
def zjn {α : Type} (a : α) (f : α → RO) : RO := f a
theorem zbd_inv {x : RO} {k : Int → HF → RO} {o : Int × HF} (h : zbd x k = some o) : ∃ r h', x = some (r, h') ∧ k r h' = some o := by
  cases x with
  | none => cases h
  | some q => exact ⟨q.1, q.2, rfl, h⟩

-- the layout
def zNC : Nat := 217
def zKL : List (Nat × Nat) := [(14, 16), (4, 2), (0, 400), (4, 2), (0, 205), (1, 8), (3, 6), (0, 4), (0, 5), (0, 196), (6, 4), (1, 16), (0, 16), (3, 6), (0, 4), (0, 5), (0, 196), (3, 6), (0, 4), (0, 5), (0, 196), (3, 6), (0, 4), (0, 5), (0, 196), (3, 6), (0, 4), (0, 5), (0, 196), (3, 6), (0, 4), (0, 5), (0, 196), (3, 6), (0, 4), (0, 5), (0, 196), (3, 6), (0, 4), (0, 5), (0, 196), (3, 6), (0, 4), (0, 5), (0, 196), (3, 6), (0, 4), (0, 5), (0, 196), (3, 6), (0, 4), (0, 5), (0, 196), (3, 6), (0, 4), (0, 5), (0, 196), (3, 6), (0, 4), (0, 5), (0, 196), (3, 6), (0, 4), (0, 5), (0, 196), (3, 6), (0, 4), (0, 5), (0, 196), (3, 6), (0, 4), (0, 5), (0, 196), (3, 6), (0, 4), (0, 5), (0, 196), (2, 4), (7, 10), (0, 7), (0, 6), (0, 41), (0, 40), (0, 80), (0, 80), (0, 80), (13, 9), (0, 401), (0, 401), (0, 80), (0, 4), (8, 5), (0, 3), (0, 80), (5, 5), (0, 877), (0, 7), (0, 7), (10, 15), (0, 7), (0, 196), (0, 196), (0, 196), (0, 196), (0, 7), (9, 6), (0, 7), (0, 7), (0, 7), (0, 7), (12, 6), (0, 300), (0, 2100), (0, 7), (11, 4), (0, 7), (0, 7), (3, 6), (0, 4), (0, 5), (0, 196), (3, 6), (0, 4), (0, 5), (0, 196), (3, 6), (0, 4), (0, 5), (0, 196), (3, 6), (0, 4), (0, 5), (0, 196), (3, 6), (0, 4), (0, 5), (0, 196), (3, 6), (0, 4), (0, 5), (0, 196), (3, 6), (0, 4), (0, 5), (0, 196), (3, 6), (0, 4), (0, 5), (0, 196), (7, 10), (0, 7), (0, 6), (0, 41), (0, 40), (0, 80), (0, 80), (0, 80), (7, 10), (0, 7), (0, 6), (0, 41), (0, 40), (0, 80), (0, 80), (0, 80), (7, 10), (0, 7), (0, 6), (0, 41), (0, 40), (0, 80), (0, 80), (0, 80), (7, 10), (0, 7), (0, 6), (0, 41), (0, 40), (0, 80), (0, 80), (0, 80), (15, 55), (0, 400), (0, 210), (0, 10), (0, 10), (0, 40), (0, 1960), (0, 16), (0, 16), (0, 16), (0, 64), (0, 3136), (0, 7), (0, 400), (0, 400), (0, 400), (0, 400), (0, 80), (0, 5), (0, 200), (0, 200), (0, 5), (0, 35), (0, 35), (0, 5), (0, 49), (0, 7), (0, 7), (0, 7), (0, 7), (0, 7), (0, 7), (0, 196), (0, 196), (0, 300), (0, 7)]
def kt (c : Nat) : Nat := (zKL.getD c (99, 0)).1
def kl (c : Nat) : Nat := (zKL.getD c (99, 0)).2
def zfk (ci k c : Nat) : Nat × Nat := match ci with
  | 0 => (match k with | 3 => (1, c + 1) | 4 => (1, c + 2) | 5 => (1, c + 3) | _ => (0, 0))
  | 1 => (match k with | 0 => (1, c + 1) | _ => (0, 0))
  | 2 => (match k with | 0 => (1, c + 1) | 2 => (1, c + 2) | 3 => (1, c + 3) | 4 => (2, 3) | _ => (0, 0))
  | 3 => (match k with | 0 => (1, c + 1) | 1 => (1, c + 2) | _ => (0, 0))
  | 4 => (match k with | 3 => (1, c + 1) | 4 => (1, c + 2) | 5 => (1, c + 3) | 6 => (1, c + 4) | 7 => (1, c + 5) | 8 => (1, c + 6) | 9 => (1, c + 7) | _ => (0, 0))
  | 5 => (match k with | 3 => (1, c + 1) | 4 => (1, c + 2) | _ => (0, 0))
  | 6 => (match k with | 0 => (1, c + 1) | 1 => (1, c + 2) | 4 => (1, c + 3) | 5 => (1, c + 4) | _ => (0, 0))
  | 7 => (match k with | 2 => (2, 3) | 3 => (2, 3) | 5 => (3, 0) | 6 => (3, 0) | 7 => (3, 0) | 8 => (1, c + 1) | 9 => (1, c + 2) | 10 => (1, c + 3) | 11 => (1, c + 4) | 12 => (1, c + 5) | 13 => (1, c + 6) | _ => (0, 0))
  | 8 => (match k with | 2 => (1, 105) | 3 => (1, 91) | _ => (0, 0))
  | 9 => (match k with | 0 => (1, c + 1) | 2 => (3, 0) | 3 => (1, c + 2) | 4 => (1, c + 3) | 5 => (2, 3) | _ => (0, 0))
  | 10 => (match k with | 2 => (2, 4) | 4 => (2, 7) | 5 => (1, c + 1) | 6 => (1, c + 2) | 7 => (1, c + 3) | 8 => (1, c + 4) | _ => (0, 0))
  | 11 => (match k with | 0 => (1, c + 1) | 1 => (1, c + 3) | 2 => (1, c + 5) | 3 => (1, c + 6) | 4 => (1, c + 10) | 5 => (1, c + 77) | 6 => (2, 7) | 7 => (1, c + 86) | 8 => (1, c + 91) | 9 => (1, c + 94) | 10 => (1, c + 98) | 11 => (1, c + 105) | 12 => (1, c + 110) | 13 => (1, c + 114) | 14 => (1, c + 115) | 15 => (1, c + 116) | _ => (0, 0))
  | 12 => (match k with | 1 => (1, c + 1) | 3 => (1, c + 2) | 6 => (1, c + 3) | 7 => (1, c + 4) | 8 => (1, c + 5) | 9 => (1, c + 6) | 10 => (1, c + 7) | 11 => (1, c + 8) | 12 => (1, c + 9) | 13 => (1, c + 10) | 14 => (1, c + 11) | 18 => (1, c + 12) | 19 => (1, c + 13) | 20 => (1, c + 14) | 21 => (1, c + 15) | 22 => (1, c + 16) | 23 => (1, c + 17) | 24 => (1, c + 18) | 25 => (1, c + 19) | 26 => (1, c + 20) | 27 => (1, c + 21) | 28 => (1, c + 22) | 29 => (1, c + 23) | 30 => (1, c + 24) | 41 => (1, c + 25) | 42 => (1, c + 26) | 44 => (1, c + 27) | 45 => (1, c + 28) | 46 => (1, c + 29) | 48 => (1, c + 30) | 49 => (1, c + 31) | 50 => (1, c + 32) | 51 => (1, c + 33) | 52 => (1, c + 34) | 54 => (1, c + 35) | _ => (0, 0))
  | _ => (0, 0)
def zsk (c k : Nat) : Nat × Nat := match kt c with
  | 0 => (0, 0)
  | 1 => (1, if c = 5 then 117 + 4 * k else 13 + 4 * k)
  | 2 => (2, 7)
  | t + 3 => zfk t k c
def nF (ci : Nat) : Nat := [6, 2, 5, 4, 10, 5, 6, 15, 4, 6, 9, 16, 55].getD ci 0
theorem kt_lt {a t : Nat} (h : kt a = t) (ht : t < 99) : a < zNC := by
  rcases Nat.lt_or_ge a zNC with q | q
  · exact q
  · have h2 : zKL[a]? = none := List.getElem?_eq_none (by show zKL.length ≤ a; exact q)
    unfold kt at h
    rw [List.getD_eq_getElem?_getD, h2] at h
    have h3 : (99 : Nat) = t := h
    omega
theorem kl_obj : ∀ a, a < 217 → 3 ≤ kt a → kl a = nF (kt a - 3) := by decide +kernel
def okS (q : Nat × Nat) (v : Int) : Prop := match q.1 with
  | 0 => rng v
  | 1 => v = (q.2 : Int)
  | 2 => v = -1 ∨ ∃ a : Nat, v = (a : Int) ∧ kt a = q.2
  | _ => v = 0 ∨ v = 1
def Gd (h : HF) : Prop := ∀ c k, okS (zsk c k) (h c k)
def svv (B : Nat) (q : Nat × Nat) (v : Int) : Value := match q.1 with
  | 0 => .int (ii v)
  | 3 => .int (ii v)
  | _ => if v < 0 then .null else .ref (B + v.toNat)
abbrev zG : Type := va_G × ClassId × ClassId × ClassId
def zce (g : zG) (B c : Nat) (hc : Nat → Int) : va_E := match kt c with
  | 0 => .inl (g.2.1, kl c, .inl (fun k => ii (hc k)))
  | 1 => .inl (g.2.2.1, kl c, .inr (.inr (.inr (.inr (fun k => if hc k < 0 then none else some (B + (hc k).toNat))))))
  | 2 => .inl (g.2.2.2, kl c, .inr (.inr (.inr (.inr (fun k => if hc k < 0 then none else some (B + (hc k).toNat))))))
  | t + 3 => .inr (t, (List.range (kl c)).map (fun k => svv B (zsk c k) (hc k)))
def wld (g : zG) (B : Nat) (h : HF) : va_W := (List.range zNC).map (fun c => (B + c, zce g B c (h c)))
theorem wld_at {g : zG} {B a : Nat} {h : HF} (ha : a < zNC) : (wld g B h)[a]? = some (B + a, zce g B a (h a)) := by
  unfold wld
  rw [List.getElem?_map, List.getElem?_range ha]
  rfl
theorem wld_none {g : zG} {B a : Nat} {h : HF} (ha : ¬ a < zNC) : (wld g B h)[a]? = none := by
  unfold wld
  rw [List.getElem?_map, List.getElem?_eq_none (by rw [List.length_range]; omega)]
  rfl
theorem wld_set {g : zG} {B a : Nat} {h h' : HF} {e : va_E} (ha : a < zNC) (he : zce g B a (h' a) = e) (ho : ∀ c, c ≠ a → h' c = h c) : (wld g B h).set a (B + a, e) = wld g B h' := by
  apply List.ext_getElem?
  intro i
  rw [List.getElem?_set]
  by_cases hi : a = i
  · subst hi
    rw [if_pos rfl, if_pos (by show a < (wld g B h).length; unfold wld; rw [List.length_map, List.length_range]; exact ha), wld_at ha, he]
  · rw [if_neg hi]
    by_cases hc : i < zNC
    · rw [wld_at hc, wld_at hc, ho i (fun q => hi q.symm)]
    · rw [wld_none hc, wld_none hc]
theorem stp_off {h : HF} {a k : Nat} {v : Int} {c : Nat} (hc : c ≠ a) : stp h a k v c = h c := by unfold stp; rw [if_neg hc]
theorem stp_on {h : HF} {a k : Nat} {v : Int} : stp h a k v a = fun k' => if k' = k then v else h a k' := by unfold stp; rw [if_pos rfl]
theorem Gd_stp {h : HF} {a k : Nat} {v : Int} (hg : Gd h) (ok : okS (zsk a k) v) : Gd (stp h a k v) := by
  intro c j
  by_cases hc : c = a
  · subst hc
    rw [stp_on]
    by_cases hj : j = k
    · subst hj; simp only [if_true]; exact ok
    · simp only [if_neg hj]; exact hg c j
  · rw [stp_off hc]; exact hg c j
def aA (B : Nat) : Nat → Prop := fun q => B ≤ q
theorem wld_D (g : zG) (B : Nat) (h : HF) : va_D (aA B) (wld g B h) := by
  refine ⟨fun i j p q hi hj e => ?_, fun k q hk => ?_⟩
  · by_cases h1 : i < zNC
    · by_cases h2 : j < zNC
      · rw [wld_at h1] at hi; rw [wld_at h2] at hj
        cases hi; cases hj
        have e' : B + i = B + j := e
        omega
      · rw [wld_none h2] at hj; cases hj
    · rw [wld_none h1] at hi; cases hi
  · by_cases h1 : k < zNC
    · rw [wld_at h1] at hk; cases hk; exact Nat.le_add_right B k
    · rw [wld_none h1] at hk; cases hk
abbrev zTys (g : zG) : List (ClassId × FieldType) := [(g.2.1, .int), (g.2.2.1, .object RX0), (g.2.2.2, .object RX4)]
/-- the one static: the row of factorials, which lies outside -/
def zNum (k : Nat) : Int := ([1, 1, 2, 6, 24, 120, 720, 5040] : List Int).getD k 0
def zSt (B : Nat) (U : State) : Prop := ∃ t, va_Z RX8 "NUMBERINGS" "[I" (.ref t) (aA B) U U.heap ∧ va_T .int t 8 (fun k => .int (ii (zNum k))) (aA B) U U.heap
def Cx (p : Program) (s : State) (m : MethodId) (args : Array Value) (meth : Method) (c : Code) (cc : ByteArray) (nL : Nat) (own : String) (ret : Option FieldType) (g : zG) (B : Nat) : Prop :=
  p.tables.exec = Jvm.exec ∧ c.code = cc ∧ c.maxLocals = nL ∧ s.vm.findClass own = some m.cls ∧ (∀ w ∈ AW, w.before args s = true) ∧ va_K g.1 vwCl (zTys g) s ∧ meth.sig.returnType = ret ∧ meth.locks = false ∧ zNs s ∧ zSt B s
def Hp (g : zG) (B : Nat) (s : State) (h : HF) (H : Heap) (locs : List Loc) : Prop := va_P g.1 vwCl (wld g B h) H ∧ Gd h ∧ va_S (aA B) s.heap H locs
def Rp (g : zG) (B : Nat) (h : HF) (U : State) : Prop := va_P g.1 vwCl (wld g B h) U.heap ∧ Gd h ∧ va_K g.1 vwCl (zTys g) U
def Rq (g : zG) (B : Nat) (h : HF) (U : State) : Prop := Rp g B h U ∧ zNs U ∧ zSt B U
def rmn (n : Nat) : Room := { frames := n, cells := 0, slots := 0, locals := 40 * n }
abbrev zQi (g : zG) (B : Nat) (o : Int × HF) : Array Value → State → Outcome → State → Prop := va_Qi (fun (x : Int32) (u : HF) => x = ii o.1 ∧ rng o.1 ∧ u = o.2) (fun u t => Rp g B u t) (aA B)
abbrev zQv (g : zG) (B : Nat) (o : Int × HF) : Array Value → State → Outcome → State → Prop := va_Qv (fun (u : HF) => u = o.2) (fun u t => Rp g B u t) (aA B)
/-- the contract of a method that answers an int: where the lifted method gives o, so does the machine -/
def CTi (l : Launch) (g : zG) (B : Nat) (y : MethodName) (cc : ByteArray) (nL : Nat) (ret : Option FieldType) (n : Nat) (As : List Value) (h : HF) (x : RO) : Prop :=
  ∀ o, x = some o → Met l y (Cond.code y cc nL ret :: AW) (rmn n) (va_Pc As (Rq g B h)) (zQi g B o) 0 0 (aA B)
def CTv (l : Launch) (g : zG) (B : Nat) (y : MethodName) (cc : ByteArray) (nL : Nat) (n : Nat) (As : List Value) (h : HF) (x : RO) : Prop :=
  ∀ o, x = some o → Met l y (Cond.code y cc nL none :: AW) (rmn n) (va_Pc As (Rq g B h)) (zQv g B o) 0 0 (aA B)
theorem zsk_obj {a ci k : Nat} (h : kt a = ci + 3) : zsk a k = zfk ci k a := by unfold zsk; rw [h]
theorem zce_obj {g : zG} {B a ci : Nat} {hc : Nat → Int} (h : kt a = ci + 3) : zce g B a hc = .inr (ci, (List.range (kl a)).map (fun k => svv B (zsk a k) (hc k))) := by unfold zce; rw [h]
theorem zce_arr {g : zG} {B a : Nat} {hc : Nat → Int} (h : kt a = 0) : zce g B a hc = .inl (g.2.1, kl a, .inl (fun k => ii (hc k))) := by unfold zce; rw [h]
theorem map_set {f : Nat → Value} {n k : Nat} {v : Value} : ((List.range n).map f).set k v = (List.range n).map (fun j => if j = k then v else f j) := by
  apply List.ext_getElem?
  intro i
  rw [List.getElem?_set]
  by_cases hi : k = i
  · subst hi
    by_cases hn : k < n
    · simp [hn]
    · simp [hn]
  · have hi' : ¬ i = k := fun q => hi q.symm
    rw [if_neg hi]
    by_cases hn : i < n
    · simp [hn, hi']
    · simp [hn]
section ZR
variable {p : Program} {l : Launch} {e : Env} {R : Room} {s : State} {m : MethodId} {args : Array Value} {below : List Frame} {meth : Method} {c : Code} {H : Heap} {locs : List Loc} {Q : State → Prop} {cc : ByteArray} {nL : Nat} {own : String} {ret : Option FieldType} {g : zG} {B : Nat} {h : HF} {pc : Nat} {ls : Array Slot} {st : List Value}
theorem z_iadd (cx : Cx p s m args meth c cc nL own ret g B) {a b : Int} (hd : decode cc pc = .ok (.iadd, 1)) (k : W p l e R s m args below meth c H locs 0 0 Q (F0 m (pc + 1) ls (.int (ii (wr (a + b))) :: st))) : W p l e R s m args below meth c H locs 0 0 Q (F0 m pc ls (.int (ii b) :: .int (ii a) :: st)) :=
  lv_iadd cx.1 cx.2.1 hd (by rw [ii_add]; exact k)
theorem z_isub (cx : Cx p s m args meth c cc nL own ret g B) {a b : Int} (hd : decode cc pc = .ok (.isub, 1)) (k : W p l e R s m args below meth c H locs 0 0 Q (F0 m (pc + 1) ls (.int (ii (wr (a - b))) :: st))) : W p l e R s m args below meth c H locs 0 0 Q (F0 m pc ls (.int (ii b) :: .int (ii a) :: st)) :=
  lv_isub cx.1 cx.2.1 hd (by rw [ii_sub]; exact k)
theorem z_imul (cx : Cx p s m args meth c cc nL own ret g B) {a b : Int} (hd : decode cc pc = .ok (.imul, 1)) (k : W p l e R s m args below meth c H locs 0 0 Q (F0 m (pc + 1) ls (.int (ii (wr (a * b))) :: st))) : W p l e R s m args below meth c H locs 0 0 Q (F0 m pc ls (.int (ii b) :: .int (ii a) :: st)) :=
  lv_imul cx.1 cx.2.1 hd (by rw [ii_mul]; exact k)
theorem z_iand (cx : Cx p s m args meth c cc nL own ret g B) {a b : Int} (hd : decode cc pc = .ok (.iand, 1)) (k : W p l e R s m args below meth c H locs 0 0 Q (F0 m (pc + 1) ls (.int (ii (wand a b)) :: st))) : W p l e R s m args below meth c H locs 0 0 Q (F0 m pc ls (.int (ii b) :: .int (ii a) :: st)) :=
  lv_iand cx.1 cx.2.1 hd (by unfold wand at k; rw [ti_ii] at k; exact k)
theorem z_ior (cx : Cx p s m args meth c cc nL own ret g B) {a b : Int} (hd : decode cc pc = .ok (.ior, 1)) (k : W p l e R s m args below meth c H locs 0 0 Q (F0 m (pc + 1) ls (.int (ii (wor a b)) :: st))) : W p l e R s m args below meth c H locs 0 0 Q (F0 m pc ls (.int (ii b) :: .int (ii a) :: st)) :=
  lv_ior cx.1 cx.2.1 hd (by unfold wor at k; rw [ti_ii] at k; exact k)
theorem z_ishl (cx : Cx p s m args meth c cc nL own ret g B) {a b : Int} (hd : decode cc pc = .ok (.ishl, 1)) (k : W p l e R s m args below meth c H locs 0 0 Q (F0 m (pc + 1) ls (.int (ii (wshl a b)) :: st))) : W p l e R s m args below meth c H locs 0 0 Q (F0 m pc ls (.int (ii b) :: .int (ii a) :: st)) :=
  lv_ishl cx.1 cx.2.1 hd (by unfold wshl at k; rw [ti_ii] at k; exact k)
theorem z_ishr (cx : Cx p s m args meth c cc nL own ret g B) {a b : Int} (hd : decode cc pc = .ok (.ishr, 1)) (k : W p l e R s m args below meth c H locs 0 0 Q (F0 m (pc + 1) ls (.int (ii (wshr a b)) :: st))) : W p l e R s m args below meth c H locs 0 0 Q (F0 m pc ls (.int (ii b) :: .int (ii a) :: st)) :=
  lv_ishr cx.1 cx.2.1 hd (by unfold wshr at k; rw [ti_ii] at k; exact k)
theorem z_iushr (cx : Cx p s m args meth c cc nL own ret g B) {a b : Int} (hd : decode cc pc = .ok (.iushr, 1)) (k : W p l e R s m args below meth c H locs 0 0 Q (F0 m (pc + 1) ls (.int (ii (wushr a b)) :: st))) : W p l e R s m args below meth c H locs 0 0 Q (F0 m pc ls (.int (ii b) :: .int (ii a) :: st)) :=
  lv_iushr cx.1 cx.2.1 hd rfl (by unfold wushr at k; rw [ti_ii] at k; exact k)
theorem zdv_inv {b : Int} {f : RO} {o : Int × HF} (h : zdv b f = some o) : b ≠ 0 ∧ f = some o := by
  unfold zdv at h
  by_cases hb : b = 0
  · rw [if_pos hb] at h; cases h
  · rw [if_neg hb] at h; exact ⟨hb, h⟩
theorem z_idiv (cx : Cx p s m args meth c cc nL own ret g B) {a b : Int} (ra : rng a) (rb : rng b) (hd : decode cc pc = .ok (.idiv, 1)) {f : RO} {o : Int × HF} (hf : zdv b f = some o) (k : f = some o → W p l e R s m args below meth c H locs 0 0 Q (F0 m (pc + 1) ls (.int (ii (wdiv a b)) :: st))) : W p l e R s m args below meth c H locs 0 0 Q (F0 m pc ls (.int (ii b) :: .int (ii a) :: st)) := by
  obtain ⟨hb, hf⟩ := zdv_inv hf
  exact lv_idiv cx.1 cx.2.1 hd (fun q => hb ((ii_eq rb (by decide)).mp (q.trans ii_0.symm))) (by rw [ii_div ra rb]; exact k hf)
theorem z_irem (cx : Cx p s m args meth c cc nL own ret g B) {a b : Int} (ra : rng a) (rb : rng b) (hd : decode cc pc = .ok (.irem, 1)) {f : RO} {o : Int × HF} (hf : zdv b f = some o) (k : f = some o → W p l e R s m args below meth c H locs 0 0 Q (F0 m (pc + 1) ls (.int (ii (wrem a b)) :: st))) : W p l e R s m args below meth c H locs 0 0 Q (F0 m pc ls (.int (ii b) :: .int (ii a) :: st)) := by
  obtain ⟨hb, hf⟩ := zdv_inv hf
  exact lv_irem cx.1 cx.2.1 hd (fun q => hb ((ii_eq rb (by decide)).mp (q.trans ii_0.symm))) (by rw [ii_rem ra rb]; exact k hf)
theorem z_ineg (cx : Cx p s m args meth c cc nL own ret g B) {a : Int} (hd : decode cc pc = .ok (.ineg, 1)) (k : W p l e R s m args below meth c H locs 0 0 Q (F0 m (pc + 1) ls (.int (ii (wr (-a))) :: st))) : W p l e R s m args below meth c H locs 0 0 Q (F0 m pc ls (.int (ii a) :: st)) :=
  lv_ineg cx.1 cx.2.1 hd (by
    have e : -ii a = ii (wr (-a)) := by
      apply Int32.toInt_inj.mp
      rw [ii_ti (rng_wr _), Int32.toInt_neg, Int32.toInt_ofInt]
      show _ = (-a).bmod 4294967296
      simp [Int32.size]
    rw [e]; exact k)
theorem rng_and (a b : Int) : rng (wand a b) := rng_ti _
theorem rng_or (a b : Int) : rng (wor a b) := rng_ti _
theorem rng_shl (a b : Int) : rng (wshl a b) := rng_ti _
theorem rng_shr (a b : Int) : rng (wshr a b) := rng_ti _
theorem rng_ushr (a b : Int) : rng (wushr a b) := rng_ti _
theorem rng_div (a b : Int) : rng (wdiv a b) := rng_wr _
theorem rng_rem (a b : Int) : rng (wrem a b) := rng_wr _
-- branches: the lifted condition is '=' or '<' alone
theorem ite_inv {P : Prop} [Decidable P] {X Y : RO} {o : Int × HF} {G : Prop} (hf : (if P then X else Y) = some o) (kt : P → X = some o → G) (kf : ¬ P → Y = some o → G) : G := by
  by_cases hp : P
  · rw [if_pos hp] at hf; exact kt hp hf
  · rw [if_neg hp] at hf; exact kf hp hf
theorem z_icmp_eq (cx : Cx p s m args meth c cc nL own ret g B) {a b : Int} (ra : rng a) (rb : rng b) {off : Int} {tgt : Nat} (hd : decode cc pc = .ok (.if_icmp .eq off, 3)) (ht : (pc : Int) + off = (tgt : Int)) {X Y : RO} {o : Int × HF} (hf : (if a = b then X else Y) = some o) (kt : a = b → X = some o → W p l e R s m args below meth c H locs 0 0 Q (F0 m tgt ls st)) (kf : ¬ a = b → Y = some o → W p l e R s m args below meth c H locs 0 0 Q (F0 m (pc + 3) ls st)) : W p l e R s m args below meth c H locs 0 0 Q (F0 m pc ls (.int (ii b) :: .int (ii a) :: st)) :=
  ite_inv hf (fun hp hx => lv_icmp_eq cx.1 cx.2.1 hd ht (fun _ => kt hp hx) (fun q => absurd ((ii_eq ra rb).mpr hp) q)) (fun hp hx => lv_icmp_eq cx.1 cx.2.1 hd ht (fun q => absurd ((ii_eq ra rb).mp q) hp) (fun _ => kf hp hx))
theorem z_icmp_ne (cx : Cx p s m args meth c cc nL own ret g B) {a b : Int} (ra : rng a) (rb : rng b) {off : Int} {tgt : Nat} (hd : decode cc pc = .ok (.if_icmp .ne off, 3)) (ht : (pc : Int) + off = (tgt : Int)) {X Y : RO} {o : Int × HF} (hf : (if a = b then X else Y) = some o) (kt : a = b → X = some o → W p l e R s m args below meth c H locs 0 0 Q (F0 m (pc + 3) ls st)) (kf : ¬ a = b → Y = some o → W p l e R s m args below meth c H locs 0 0 Q (F0 m tgt ls st)) : W p l e R s m args below meth c H locs 0 0 Q (F0 m pc ls (.int (ii b) :: .int (ii a) :: st)) :=
  ite_inv hf (fun hp hx => lv_icmp_ne cx.1 cx.2.1 hd ht (fun q => absurd ((ii_eq ra rb).mpr hp) q) (fun _ => kt hp hx)) (fun hp hx => lv_icmp_ne cx.1 cx.2.1 hd ht (fun _ => kf hp hx) (fun q => absurd ((ii_eq ra rb).mp q) hp))
theorem z_icmp_lt (cx : Cx p s m args meth c cc nL own ret g B) {a b : Int} (ra : rng a) (rb : rng b) {off : Int} {tgt : Nat} (hd : decode cc pc = .ok (.if_icmp .lt off, 3)) (ht : (pc : Int) + off = (tgt : Int)) {X Y : RO} {o : Int × HF} (hf : (if a < b then X else Y) = some o) (kt : a < b → X = some o → W p l e R s m args below meth c H locs 0 0 Q (F0 m tgt ls st)) (kf : ¬ a < b → Y = some o → W p l e R s m args below meth c H locs 0 0 Q (F0 m (pc + 3) ls st)) : W p l e R s m args below meth c H locs 0 0 Q (F0 m pc ls (.int (ii b) :: .int (ii a) :: st)) :=
  ite_inv hf (fun hp hx => lv_icmp_lt cx.1 cx.2.1 hd ht (fun _ => kt hp hx) (fun q => absurd ((ii_lt ra rb).mpr hp) q)) (fun hp hx => lv_icmp_lt cx.1 cx.2.1 hd ht (fun q => absurd ((ii_lt ra rb).mp q) hp) (fun _ => kf hp hx))
theorem z_icmp_ge (cx : Cx p s m args meth c cc nL own ret g B) {a b : Int} (ra : rng a) (rb : rng b) {off : Int} {tgt : Nat} (hd : decode cc pc = .ok (.if_icmp .ge off, 3)) (ht : (pc : Int) + off = (tgt : Int)) {X Y : RO} {o : Int × HF} (hf : (if a < b then X else Y) = some o) (kt : a < b → X = some o → W p l e R s m args below meth c H locs 0 0 Q (F0 m (pc + 3) ls st)) (kf : ¬ a < b → Y = some o → W p l e R s m args below meth c H locs 0 0 Q (F0 m tgt ls st)) : W p l e R s m args below meth c H locs 0 0 Q (F0 m pc ls (.int (ii b) :: .int (ii a) :: st)) :=
  ite_inv hf (fun hp hx => lv_icmp_ge cx.1 cx.2.1 hd ht (fun q => absurd ((ii_le rb ra).mp q) (by omega)) (fun _ => kt hp hx)) (fun hp hx => lv_icmp_ge cx.1 cx.2.1 hd ht (fun _ => kf hp hx) (fun q => absurd ((ii_le rb ra).mpr (by omega)) q))
theorem z_icmp_gt (cx : Cx p s m args meth c cc nL own ret g B) {a b : Int} (ra : rng a) (rb : rng b) {off : Int} {tgt : Nat} (hd : decode cc pc = .ok (.if_icmp .gt off, 3)) (ht : (pc : Int) + off = (tgt : Int)) {X Y : RO} {o : Int × HF} (hf : (if b < a then X else Y) = some o) (kt : b < a → X = some o → W p l e R s m args below meth c H locs 0 0 Q (F0 m tgt ls st)) (kf : ¬ b < a → Y = some o → W p l e R s m args below meth c H locs 0 0 Q (F0 m (pc + 3) ls st)) : W p l e R s m args below meth c H locs 0 0 Q (F0 m pc ls (.int (ii b) :: .int (ii a) :: st)) :=
  ite_inv hf (fun hp hx => lv_icmp_gt cx.1 cx.2.1 hd ht (fun _ => kt hp hx) (fun q => absurd ((ii_lt rb ra).mpr hp) q)) (fun hp hx => lv_icmp_gt cx.1 cx.2.1 hd ht (fun q => absurd ((ii_lt rb ra).mp q) hp) (fun _ => kf hp hx))
theorem z_icmp_le (cx : Cx p s m args meth c cc nL own ret g B) {a b : Int} (ra : rng a) (rb : rng b) {off : Int} {tgt : Nat} (hd : decode cc pc = .ok (.if_icmp .le off, 3)) (ht : (pc : Int) + off = (tgt : Int)) {X Y : RO} {o : Int × HF} (hf : (if b < a then X else Y) = some o) (kt : b < a → X = some o → W p l e R s m args below meth c H locs 0 0 Q (F0 m (pc + 3) ls st)) (kf : ¬ b < a → Y = some o → W p l e R s m args below meth c H locs 0 0 Q (F0 m tgt ls st)) : W p l e R s m args below meth c H locs 0 0 Q (F0 m pc ls (.int (ii b) :: .int (ii a) :: st)) :=
  ite_inv hf (fun hp hx => lv_icmp_le cx.1 cx.2.1 hd ht (fun q => absurd ((ii_le ra rb).mp q) (by omega)) (fun _ => kt hp hx)) (fun hp hx => lv_icmp_le cx.1 cx.2.1 hd ht (fun _ => kf hp hx) (fun q => absurd ((ii_le ra rb).mpr (by omega)) q))
theorem rng_0 : rng 0 := by decide
theorem z_if_eq (cx : Cx p s m args meth c cc nL own ret g B) {a : Int} (ra : rng a) {off : Int} {tgt : Nat} (hd : decode cc pc = .ok (.ifCond .eq off, 3)) (ht : (pc : Int) + off = (tgt : Int)) {X Y : RO} {o : Int × HF} (hf : (if a = 0 then X else Y) = some o) (kt : a = 0 → X = some o → W p l e R s m args below meth c H locs 0 0 Q (F0 m tgt ls st)) (kf : ¬ a = 0 → Y = some o → W p l e R s m args below meth c H locs 0 0 Q (F0 m (pc + 3) ls st)) : W p l e R s m args below meth c H locs 0 0 Q (F0 m pc ls (.int (ii a) :: st)) :=
  ite_inv hf (fun hp hx => lv_if_eq cx.1 cx.2.1 hd ht (fun _ => kt hp hx) (fun q => absurd ((ii_eq ra rng_0).mpr hp) q)) (fun hp hx => lv_if_eq cx.1 cx.2.1 hd ht (fun q => absurd ((ii_eq ra rng_0).mp q) hp) (fun _ => kf hp hx))
theorem z_if_ne (cx : Cx p s m args meth c cc nL own ret g B) {a : Int} (ra : rng a) {off : Int} {tgt : Nat} (hd : decode cc pc = .ok (.ifCond .ne off, 3)) (ht : (pc : Int) + off = (tgt : Int)) {X Y : RO} {o : Int × HF} (hf : (if a = 0 then X else Y) = some o) (kt : a = 0 → X = some o → W p l e R s m args below meth c H locs 0 0 Q (F0 m (pc + 3) ls st)) (kf : ¬ a = 0 → Y = some o → W p l e R s m args below meth c H locs 0 0 Q (F0 m tgt ls st)) : W p l e R s m args below meth c H locs 0 0 Q (F0 m pc ls (.int (ii a) :: st)) :=
  ite_inv hf (fun hp hx => lv_if_ne cx.1 cx.2.1 hd ht (fun q => absurd ((ii_eq ra rng_0).mpr hp) q) (fun _ => kt hp hx)) (fun hp hx => lv_if_ne cx.1 cx.2.1 hd ht (fun _ => kf hp hx) (fun q => absurd ((ii_eq ra rng_0).mp q) hp))
theorem z_if_lt (cx : Cx p s m args meth c cc nL own ret g B) {a : Int} (ra : rng a) {off : Int} {tgt : Nat} (hd : decode cc pc = .ok (.ifCond .lt off, 3)) (ht : (pc : Int) + off = (tgt : Int)) {X Y : RO} {o : Int × HF} (hf : (if a < 0 then X else Y) = some o) (kt : a < 0 → X = some o → W p l e R s m args below meth c H locs 0 0 Q (F0 m tgt ls st)) (kf : ¬ a < 0 → Y = some o → W p l e R s m args below meth c H locs 0 0 Q (F0 m (pc + 3) ls st)) : W p l e R s m args below meth c H locs 0 0 Q (F0 m pc ls (.int (ii a) :: st)) :=
  ite_inv hf (fun hp hx => lv_if_lt cx.1 cx.2.1 hd ht (fun _ => kt hp hx) (fun q => absurd ((ii_lt ra rng_0).mpr hp) q)) (fun hp hx => lv_if_lt cx.1 cx.2.1 hd ht (fun q => absurd ((ii_lt ra rng_0).mp q) hp) (fun _ => kf hp hx))
theorem z_if_ge (cx : Cx p s m args meth c cc nL own ret g B) {a : Int} (ra : rng a) {off : Int} {tgt : Nat} (hd : decode cc pc = .ok (.ifCond .ge off, 3)) (ht : (pc : Int) + off = (tgt : Int)) {X Y : RO} {o : Int × HF} (hf : (if a < 0 then X else Y) = some o) (kt : a < 0 → X = some o → W p l e R s m args below meth c H locs 0 0 Q (F0 m (pc + 3) ls st)) (kf : ¬ a < 0 → Y = some o → W p l e R s m args below meth c H locs 0 0 Q (F0 m tgt ls st)) : W p l e R s m args below meth c H locs 0 0 Q (F0 m pc ls (.int (ii a) :: st)) :=
  ite_inv hf (fun hp hx => lv_if_ge cx.1 cx.2.1 hd ht (fun q => absurd ((ii_le rng_0 ra).mp q) (by omega)) (fun _ => kt hp hx)) (fun hp hx => lv_if_ge cx.1 cx.2.1 hd ht (fun _ => kf hp hx) (fun q => absurd ((ii_le rng_0 ra).mpr (by omega)) q))
theorem z_if_gt (cx : Cx p s m args meth c cc nL own ret g B) {a : Int} (ra : rng a) {off : Int} {tgt : Nat} (hd : decode cc pc = .ok (.ifCond .gt off, 3)) (ht : (pc : Int) + off = (tgt : Int)) {X Y : RO} {o : Int × HF} (hf : (if 0 < a then X else Y) = some o) (kt : 0 < a → X = some o → W p l e R s m args below meth c H locs 0 0 Q (F0 m tgt ls st)) (kf : ¬ 0 < a → Y = some o → W p l e R s m args below meth c H locs 0 0 Q (F0 m (pc + 3) ls st)) : W p l e R s m args below meth c H locs 0 0 Q (F0 m pc ls (.int (ii a) :: st)) :=
  ite_inv hf (fun hp hx => lv_if_gt cx.1 cx.2.1 hd ht (fun _ => kt hp hx) (fun q => absurd ((ii_lt rng_0 ra).mpr hp) q)) (fun hp hx => lv_if_gt cx.1 cx.2.1 hd ht (fun q => absurd ((ii_lt rng_0 ra).mp q) hp) (fun _ => kf hp hx))
theorem z_if_le (cx : Cx p s m args meth c cc nL own ret g B) {a : Int} (ra : rng a) {off : Int} {tgt : Nat} (hd : decode cc pc = .ok (.ifCond .le off, 3)) (ht : (pc : Int) + off = (tgt : Int)) {X Y : RO} {o : Int × HF} (hf : (if 0 < a then X else Y) = some o) (kt : 0 < a → X = some o → W p l e R s m args below meth c H locs 0 0 Q (F0 m (pc + 3) ls st)) (kf : ¬ 0 < a → Y = some o → W p l e R s m args below meth c H locs 0 0 Q (F0 m tgt ls st)) : W p l e R s m args below meth c H locs 0 0 Q (F0 m pc ls (.int (ii a) :: st)) :=
  ite_inv hf (fun hp hx => lv_if_le cx.1 cx.2.1 hd ht (fun q => absurd ((ii_le ra rng_0).mp q) (by omega)) (fun _ => kt hp hx)) (fun hp hx => lv_if_le cx.1 cx.2.1 hd ht (fun _ => kf hp hx) (fun q => absurd ((ii_le ra rng_0).mpr (by omega)) q))
-- constants
theorem z_iconst (cx : Cx p s m args meth c cc nL own ret g B) {n : Int} (hd : decode cc pc = .ok (.iconst n, 1)) (k : W p l e R s m args below meth c H locs 0 0 Q (F0 m (pc + 1) ls (.int (ii n) :: st))) : W p l e R s m args below meth c H locs 0 0 Q (F0 m pc ls st) := lv_iconst cx.1 cx.2.1 hd rfl k
theorem z_bipush (cx : Cx p s m args meth c cc nL own ret g B) {n : Int} (hn : (Int8.ofInt n).toInt32 = ii n) (hd : decode cc pc = .ok (.bipush n, 2)) (k : W p l e R s m args below meth c H locs 0 0 Q (F0 m (pc + 2) ls (.int (ii n) :: st))) : W p l e R s m args below meth c H locs 0 0 Q (F0 m pc ls st) := lv_bipush cx.1 cx.2.1 hd hn k
theorem z_sipush (cx : Cx p s m args meth c cc nL own ret g B) {n : Int} (hn : (Int16.ofInt n).toInt32 = ii n) (hd : decode cc pc = .ok (.sipush n, 3)) (k : W p l e R s m args below meth c H locs 0 0 Q (F0 m (pc + 3) ls (.int (ii n) :: st))) : W p l e R s m args below meth c H locs 0 0 Q (F0 m pc ls st) := lv_sipush cx.1 cx.2.1 hd hn k
-- fields
theorem zf_at {B a ci k : Nat} {h : HF} (ha : kt a = ci + 3) (hk : k < nF ci) : ((List.range (kl a)).map (fun k => svv B (zsk a k) (h a k)))[k]? = some (svv B (zfk ci k a) (h a k)) := by
  have h1 : kl a = nF ci := by
    have h99 : ci + 3 < 99 := by
      rcases Nat.lt_or_ge ci 96 with q | q
      · omega
      · exfalso
        have : nF ci = 0 := by unfold nF; rw [List.getD_eq_getElem?_getD, List.getElem?_eq_none (by show 13 ≤ ci; omega)]; rfl
        omega
    rw [kl_obj a (kt_lt ha h99) (by omega), ha]; rfl
  rw [List.getElem?_map, h1, List.getElem?_range hk, ← zsk_obj ha]
  rfl
theorem zf_len {a ci k : Nat} (ha : kt a = ci + 3) (hk : k < nF ci) : k < kl a ∧ a < zNC := by
  have h99 : ci + 3 < 99 := by
    rcases Nat.lt_or_ge ci 96 with q | q
    · omega
    · exfalso
      have : nF ci = 0 := by unfold nF; rw [List.getD_eq_getElem?_getD, List.getElem?_eq_none (by show 13 ≤ ci; omega)]; rfl
      omega
  have h2 := kt_lt ha h99
  refine ⟨?_, h2⟩
  rw [kl_obj a h2 (by omega), ha]
  exact hk
/-- a field that holds an int -/
theorem z_geti (cx : Cx p s m args meth c cc nL own ret g B) (hp : Hp g B s h H locs) {C : String} {T : u_T} {N : Nat} (ci k : Nat) {a idx : Nat} (hc : vwCl[ci]? = some (C, T, N)) (hin : ∀ w ∈ u_ws C T N, w ∈ AW) (hkN : k < N) (hkF : k < nF ci) (ha : kt a = ci + 3) (hq : zfk ci k a = (0, 0)) (hw : Cond.fieldLink own idx (T k).1 (T k).2.1 (T k).2.2.1 ∈ AW) (hd : decode cc pc = .ok (.getfield idx, 3)) {f : Int → RO} {o : Int × HF} (hf : zgf h a k f = some o) (kk : ∀ v, rng v → f v = some o → W p l e R s m args below meth c H locs 0 0 Q (F0 m (pc + 3) ls (.int (ii v) :: st))) : W p l e R s m args below meth c H locs 0 0 Q (F0 m pc ls (.ref (B + a) :: st)) := by
  have hz := zf_at (B := B) (h := h) ha hkF
  rw [hq] at hz
  have hr := hp.2.1 a k
  rw [zsk_obj ha, hq] at hr
  exact va_get (D := g.1) (ci := ci) (v := .int (ii (h a k))) (T := T) cx.1 cx.2.1 cx.2.2.2.2.1 hin cx.2.2.2.1 cx.2.2.2.2.2.1 hp.1 a (by rw [wld_at (zf_len ha hkF).2, zce_obj ha]) hc k hkN (cx.2.2.2.2.1 _ hw) (fun _ q => q) hz hd (kk _ hr hf)
/-- a field that holds 0 or 1 -/
theorem z_getz (cx : Cx p s m args meth c cc nL own ret g B) (hp : Hp g B s h H locs) {C : String} {T : u_T} {N : Nat} (ci k : Nat) {a idx : Nat} (hc : vwCl[ci]? = some (C, T, N)) (hin : ∀ w ∈ u_ws C T N, w ∈ AW) (hkN : k < N) (hkF : k < nF ci) (ha : kt a = ci + 3) (hq : zfk ci k a = (3, 0)) (hw : Cond.fieldLink own idx (T k).1 (T k).2.1 (T k).2.2.1 ∈ AW) (hd : decode cc pc = .ok (.getfield idx, 3)) {f : Int → RO} {o : Int × HF} (hf : zgf h a k f = some o) (kk : ∀ v, rng v → f v = some o → W p l e R s m args below meth c H locs 0 0 Q (F0 m (pc + 3) ls (.int (ii v) :: st))) : W p l e R s m args below meth c H locs 0 0 Q (F0 m pc ls (.ref (B + a) :: st)) := by
  have hz := zf_at (B := B) (h := h) ha hkF
  rw [hq] at hz
  have hr := hp.2.1 a k
  rw [zsk_obj ha, hq] at hr
  have hr : h a k = 0 ∨ h a k = 1 := hr
  exact va_get (D := g.1) (ci := ci) (v := .int (ii (h a k))) (T := T) cx.1 cx.2.1 cx.2.2.2.2.1 hin cx.2.2.2.1 cx.2.2.2.2.2.1 hp.1 a (by rw [wld_at (zf_len ha hkF).2, zce_obj ha]) hc k hkN (cx.2.2.2.2.1 _ hw) (fun _ q => q) hz hd (kk _ (by rcases hr with q | q <;> rw [q] <;> decide) hf)
/-- a final field that holds a reference: where it leads is known -/
theorem z_gets (cx : Cx p s m args meth c cc nL own ret g B) (hp : Hp g B s h H locs) {C : String} {T : u_T} {N : Nat} (ci k t : Nat) {a idx : Nat} (hc : vwCl[ci]? = some (C, T, N)) (hin : ∀ w ∈ u_ws C T N, w ∈ AW) (hkN : k < N) (hkF : k < nF ci) (ha : kt a = ci + 3) (hq : zfk ci k a = (1, t)) (hw : Cond.fieldLink own idx (T k).1 (T k).2.1 (T k).2.2.1 ∈ AW) (hd : decode cc pc = .ok (.getfield idx, 3)) (kk : W p l e R s m args below meth c H locs 0 0 Q (F0 m (pc + 3) ls (.ref (B + t) :: st))) : W p l e R s m args below meth c H locs 0 0 Q (F0 m pc ls (.ref (B + a) :: st)) := by
  have hz := zf_at (B := B) (h := h) ha hkF
  rw [hq] at hz
  have hr := hp.2.1 a k
  rw [zsk_obj ha, hq] at hr
  have hr : h a k = (t : Int) := hr
  have hv : svv B (1, t) (h a k) = .ref (B + t) := by
    rw [hr]
    show (if (t : Int) < 0 then Value.null else .ref (B + (t : Int).toNat)) = _
    rw [if_neg (by omega)]; rfl
  rw [hv] at hz
  exact va_get (D := g.1) (ci := ci) (v := .ref (B + t)) (T := T) cx.1 cx.2.1 cx.2.2.2.2.1 hin cx.2.2.2.1 cx.2.2.2.2.2.1 hp.1 a (by rw [wld_at (zf_len ha hkF).2, zce_obj ha]) hc k hkN (cx.2.2.2.2.1 _ hw) (fun _ q => q) hz hd kk
/-- a field that holds a reference that changes -/
theorem z_getd (cx : Cx p s m args meth c cc nL own ret g B) (hp : Hp g B s h H locs) {C : String} {T : u_T} {N : Nat} (ci k t : Nat) {a idx : Nat} (hc : vwCl[ci]? = some (C, T, N)) (hin : ∀ w ∈ u_ws C T N, w ∈ AW) (hkN : k < N) (hkF : k < nF ci) (ha : kt a = ci + 3) (hq : zfk ci k a = (2, t)) (hw : Cond.fieldLink own idx (T k).1 (T k).2.1 (T k).2.2.1 ∈ AW) (hd : decode cc pc = .ok (.getfield idx, 3)) {f : Nat → RO} {o : Int × HF} (hf : zgd h a k f = some o) (kk : ∀ v, kt v = t → f v = some o → W p l e R s m args below meth c H locs 0 0 Q (F0 m (pc + 3) ls (.ref (B + v) :: st))) : W p l e R s m args below meth c H locs 0 0 Q (F0 m pc ls (.ref (B + a) :: st)) := by
  have hz := zf_at (B := B) (h := h) ha hkF
  rw [hq] at hz
  have hr := hp.2.1 a k
  rw [zsk_obj ha, hq] at hr
  have hr : h a k = -1 ∨ ∃ v : Nat, h a k = (v : Int) ∧ kt v = t := hr
  unfold zgd at hf
  by_cases h0 : 0 ≤ h a k
  · rw [if_pos h0] at hf
    obtain ⟨v, e1, e2⟩ : ∃ v : Nat, h a k = (v : Int) ∧ kt v = t := hr.resolve_left (by omega)
    have hv : svv B (2, t) (h a k) = .ref (B + v) := by
      rw [e1]
      show (if (v : Int) < 0 then Value.null else .ref (B + (v : Int).toNat)) = _
      rw [if_neg (by omega)]; rfl
    rw [hv] at hz
    rw [e1] at hf
    exact va_get (D := g.1) (ci := ci) (v := .ref (B + v)) (T := T) cx.1 cx.2.1 cx.2.2.2.2.1 hin cx.2.2.2.1 cx.2.2.2.2.2.1 hp.1 a (by rw [wld_at (zf_len ha hkF).2, zce_obj ha]) hc k hkN (cx.2.2.2.2.1 _ hw) (fun _ q => q) hz hd (kk v e2 hf)
  · rw [if_neg h0] at hf; cases hf
theorem zput_w {g : zG} {B a ci k : Nat} {h : HF} {v : Int} {x : Value} (ha : kt a = ci + 3) (hkF : k < nF ci) (hx : svv B (zfk ci k a) v = x) : (wld g B h).set a (B + a, .inr (ci, ((List.range (kl a)).map (fun k => svv B (zsk a k) (h a k))).set k x)) = wld g B (stp h a k v) := by
  refine wld_set (zf_len ha hkF).2 ?_ (fun c hc => stp_off hc)
  rw [zce_obj ha, stp_on, map_set]
  congr 2
  apply List.map_congr_left
  intro j _
  by_cases hj : j = k
  · subst hj; simp only [if_true]; rw [zsk_obj ha, hx]
  · simp only [if_neg hj]
theorem z_puti (cx : Cx p s m args meth c cc nL own ret g B) (hp : Hp g B s h H locs) {C : String} {T : u_T} {N : Nat} (ty : Nat → FieldType) (hty : ∀ k, k < N → parseFieldDescriptor (T k).2.2.1 = some (ty k)) (hnm : ∀ a, a < N → ∀ b, b < N → a ≠ b → (T a).2.1 ≠ (T b).2.1) (ci k : Nat) {a idx : Nat} {v : Int} (rv : rng v) (hc : vwCl[ci]? = some (C, T, N)) (hin : ∀ w ∈ u_ws C T N, w ∈ AW) (hkN : k < N) (hkF : k < nF ci) (ha : kt a = ci + 3) (hq : zfk ci k a = (0, 0)) (hfin : (T k).2.2.2 = false) (hI : ty k = .int) (hw : Cond.fieldLink own idx (T k).1 (T k).2.1 (T k).2.2.1 ∈ AW) (hd : decode cc pc = .ok (.putfield idx, 3)) {f : HF → RO} {o : Int × HF} (hf : zpf h a k v f = some o) (kk : ∀ h1 H1 locs1, Hp g B s h1 H1 locs1 → f h1 = some o → W p l e R s m args below meth c H1 locs1 0 0 Q (F0 m (pc + 3) ls st)) : W p l e R s m args below meth c H locs 0 0 Q (F0 m pc ls (.int (ii v) :: .ref (B + a) :: st)) := by
  have hl := zf_len ha hkF
  refine va_put (D := g.1) (ci := ci) (v := .int (ii v)) (ty := .int) (T := T) cx.1 cx.2.1 cx.2.2.2.2.1 hin ty hty hnm cx.2.2.2.1 cx.2.2.2.2.2.1 hp.1 (wld_D g B h) hp.2.2 a (by rw [wld_at hl.2, zce_obj ha]) hc k hkN (cx.2.2.2.2.1 _ hw) (fun _ q => q) hfin (by rw [hty k hkN, hI]) rfl rfl (by rw [List.length_map, List.length_range]; exact hl.1) hd (fun H1 locs1 hP1 _ hS1 => ?_)
  rw [zput_w (v := v) ha hkF (by rw [hq]; rfl)] at hP1
  exact kk (stp h a k v) H1 locs1 ⟨hP1, Gd_stp hp.2.1 (by rw [zsk_obj ha, hq]; exact rv), hS1⟩ hf
theorem z_putd (cx : Cx p s m args meth c cc nL own ret g B) (hp : Hp g B s h H locs) {C : String} {T : u_T} {N : Nat} (ty : Nat → FieldType) (hty : ∀ k, k < N → parseFieldDescriptor (T k).2.2.1 = some (ty k)) (hnm : ∀ a, a < N → ∀ b, b < N → a ≠ b → (T a).2.1 ≠ (T b).2.1) (ci k t : Nat) {a idx v : Nat} (hv : kt v = t) (hc : vwCl[ci]? = some (C, T, N)) (hin : ∀ w ∈ u_ws C T N, w ∈ AW) (hkN : k < N) (hkF : k < nF ci) (ha : kt a = ci + 3) (hq : zfk ci k a = (2, t)) (hfin : (T k).2.2.2 = false) (hI : ∃ C', ty k = .object C') (hw : Cond.fieldLink own idx (T k).1 (T k).2.1 (T k).2.2.1 ∈ AW) (hd : decode cc pc = .ok (.putfield idx, 3)) {f : HF → RO} {o : Int × HF} (hf : zpf h a k (v : Int) f = some o) (kk : ∀ h1 H1 locs1, Hp g B s h1 H1 locs1 → f h1 = some o → W p l e R s m args below meth c H1 locs1 0 0 Q (F0 m (pc + 3) ls st)) : W p l e R s m args below meth c H locs 0 0 Q (F0 m pc ls (.ref (B + v) :: .ref (B + a) :: st)) := by
  have hl := zf_len ha hkF
  obtain ⟨C', hI⟩ := hI
  refine va_put (D := g.1) (ci := ci) (v := .ref (B + v)) (ty := .object C') (T := T) cx.1 cx.2.1 cx.2.2.2.2.1 hin ty hty hnm cx.2.2.2.1 cx.2.2.2.2.2.1 hp.1 (wld_D g B h) hp.2.2 a (by rw [wld_at hl.2, zce_obj ha]) hc k hkN (cx.2.2.2.2.1 _ hw) (fun _ q => q) hfin (by rw [hty k hkN, hI]) rfl rfl (by rw [List.length_map, List.length_range]; exact hl.1) hd (fun H1 locs1 hP1 _ hS1 => ?_)
  rw [zput_w (v := (v : Int)) ha hkF (by rw [hq]; show (if (v : Int) < 0 then Value.null else .ref (B + (v : Int).toNat)) = _; rw [if_neg (by omega)]; rfl)] at hP1
  exact kk (stp h a k (v : Int)) H1 locs1 ⟨hP1, Gd_stp hp.2.1 (by rw [zsk_obj ha, hq]; exact Or.inr ⟨v, rfl, hv⟩), hS1⟩ hf
end ZR

