def zNi : List (String × Nat × MethodName) := [(RX11, 27, yX0_init), (RX11, 45, yX4_init), (RX11, 52, yX10_init), (RX11, 59, yX5_init), (RX11, 66, yX2_init), (RX11, 73, yX7_init), (RX11, 80, yX6_init), (RX11, 87, yX9_init), (RX3, 21, yX0_init)]
theorem ni_X11_27 : (RX11, 27, yX0_init) ∈ zNi := List.mem_of_getElem? (i := 0) rfl
theorem ni_X11_45 : (RX11, 45, yX4_init) ∈ zNi := List.mem_of_getElem? (i := 1) rfl
theorem ni_X11_52 : (RX11, 52, yX10_init) ∈ zNi := List.mem_of_getElem? (i := 2) rfl
theorem ni_X11_59 : (RX11, 59, yX5_init) ∈ zNi := List.mem_of_getElem? (i := 3) rfl
theorem ni_X11_66 : (RX11, 66, yX2_init) ∈ zNi := List.mem_of_getElem? (i := 4) rfl
theorem ni_X11_73 : (RX11, 73, yX7_init) ∈ zNi := List.mem_of_getElem? (i := 5) rfl
theorem ni_X11_80 : (RX11, 80, yX6_init) ∈ zNi := List.mem_of_getElem? (i := 6) rfl
theorem ni_X11_87 : (RX11, 87, yX9_init) ∈ zNi := List.mem_of_getElem? (i := 7) rfl
theorem ni_X3_21 : (RX3, 21, yX0_init) ∈ zNi := List.mem_of_getElem? (i := 8) rfl
theorem zw_ac : Cond.arrayClass .int ∈ AW := (aw_m1 45 (by decide +kernel) rfl)
theorem cl_L_7 : Cond.classLink RL 7 RX11 ∈ AW := (aw_m1 18 (by decide +kernel) rfl)
theorem in_X11 : Cond.instantiable RX11 16 ∈ AW ∧ Cond.initialized RX11 ∈ AW := ⟨(aw_m1 19 (by decide +kernel) rfl), (aw_m1 1 (by decide +kernel) rfl)⟩
theorem cl_X11_9 : Cond.classLink RX11 9 RX1 ∈ AW := (aw_m1 26 (by decide +kernel) rfl)
theorem in_X1 : Cond.instantiable RX1 2 ∈ AW ∧ Cond.initialized RX1 ∈ AW := ⟨(aw_m1 27 (by decide +kernel) rfl), (aw_m1 2 (by decide +kernel) rfl)⟩
theorem cl_X11_21 : Cond.classLink RX11 21 RX0 ∈ AW := (aw_m1 46 (by decide +kernel) rfl)
theorem in_X0 : Cond.instantiable RX0 6 ∈ AW ∧ Cond.initialized RX0 ∈ AW := ⟨(aw_m1 48 (by decide +kernel) rfl), (aw_m1 4 (by decide +kernel) rfl)⟩
theorem cl_X11_32 : Cond.classLink RX11 32 RX3 ∈ AW := (aw_m1 97 (by decide +kernel) rfl)
theorem in_X3 : Cond.instantiable RX3 4 ∈ AW ∧ Cond.initialized RX3 ∈ AW := ⟨(aw_m1 98 (by decide +kernel) rfl), (aw_m1 5 (by decide +kernel) rfl)⟩
theorem cl_X3_9 : Cond.classLink RX3 9 RX0 ∈ AW := (aw_m1 103 (by decide +kernel) rfl)
theorem cl_X11_39 : Cond.classLink RX11 39 RX4 ∈ AW := (aw_m1 119 (by decide +kernel) rfl)
theorem in_X4 : Cond.instantiable RX4 10 ∈ AW ∧ Cond.initialized RX4 ∈ AW := ⟨(aw_m1 121 (by decide +kernel) rfl), (aw_m1 6 (by decide +kernel) rfl)⟩
theorem cl_X11_50 : Cond.classLink RX11 50 RX10 ∈ AW := (aw_m1 171 (by decide +kernel) rfl)
theorem in_X10 : Cond.instantiable RX10 9 ∈ AW ∧ Cond.initialized RX10 ∈ AW := ⟨(aw_m1 172 (by decide +kernel) rfl), (aw_m1 7 (by decide +kernel) rfl)⟩
theorem cl_X11_57 : Cond.classLink RX11 57 RX5 ∈ AW := (aw_m1 207 (by decide +kernel) rfl)
theorem in_X5 : Cond.instantiable RX5 5 ∈ AW ∧ Cond.initialized RX5 ∈ AW := ⟨(aw_m1 208 (by decide +kernel) rfl), (aw_m1 8 (by decide +kernel) rfl)⟩
theorem cl_X11_64 : Cond.classLink RX11 64 RX2 ∈ AW := (aw_m1 232 (by decide +kernel) rfl)
theorem in_X2 : Cond.instantiable RX2 5 ∈ AW ∧ Cond.initialized RX2 ∈ AW := ⟨(aw_m1 233 (by decide +kernel) rfl), (aw_m1 9 (by decide +kernel) rfl)⟩
theorem cl_X11_71 : Cond.classLink RX11 71 RX7 ∈ AW := (aw_m2 17 (by decide +kernel) rfl)
theorem in_X7 : Cond.instantiable RX7 15 ∈ AW ∧ Cond.initialized RX7 ∈ AW := ⟨(aw_m2 18 (by decide +kernel) rfl), (aw_m1 10 (by decide +kernel) rfl)⟩
theorem cl_X11_78 : Cond.classLink RX11 78 RX6 ∈ AW := (aw_m2 71 (by decide +kernel) rfl)
theorem in_X6 : Cond.instantiable RX6 6 ∈ AW ∧ Cond.initialized RX6 ∈ AW := ⟨(aw_m2 72 (by decide +kernel) rfl), (aw_m1 11 (by decide +kernel) rfl)⟩
theorem cl_X11_85 : Cond.classLink RX11 85 RX9 ∈ AW := (aw_m2 101 (by decide +kernel) rfl)
theorem in_X9 : Cond.instantiable RX9 6 ∈ AW ∧ Cond.initialized RX9 ∈ AW := ⟨(aw_m2 102 (by decide +kernel) rfl), (aw_m1 12 (by decide +kernel) rfl)⟩
theorem cl_X11_92 : Cond.classLink RX11 92 RX8 ∈ AW := (aw_m2 129 (by decide +kernel) rfl)
theorem in_X8 : Cond.instantiable RX8 4 ∈ AW ∧ Cond.initialized RX8 ∈ AW := ⟨(aw_m2 130 (by decide +kernel) rfl), (aw_m1 13 (by decide +kernel) rfl)⟩
theorem cl_L_10 : Cond.classLink RL 10 RX12 ∈ AW := (aw_m5 143 (by decide +kernel) rfl)
theorem in_X12 : Cond.instantiable RX12 55 ∈ AW ∧ Cond.initialized RX12 ∈ AW := ⟨(aw_m5 144 (by decide +kernel) rfl), (aw_m1 14 (by decide +kernel) rfl)⟩
theorem mo_X11 : Cond.methodLink RX11 3 Lib.objectInit ∈ AW := (aw_m1 23 (by decide +kernel) rfl)
theorem ml_X11_11 : Cond.methodLink RX11 11 yX1_init ∈ AW := (aw_m1 28 (by decide +kernel) rfl)
theorem ml_X11_34 : Cond.methodLink RX11 34 yX3_init ∈ AW := (aw_m1 99 (by decide +kernel) rfl)
theorem ml_X11_94 : Cond.methodLink RX11 94 yX8_init ∈ AW := (aw_m2 131 (by decide +kernel) rfl)
theorem mo_X0 : Cond.methodLink RX0 3 Lib.objectInit ∈ AW := (aw_m1 52 (by decide +kernel) rfl)
theorem mo_X1 : Cond.methodLink RX1 3 Lib.objectInit ∈ AW := (aw_m1 31 (by decide +kernel) rfl)
theorem mo_X2 : Cond.methodLink RX2 3 Lib.objectInit ∈ AW := (aw_m1 237 (by decide +kernel) rfl)
theorem mo_X3 : Cond.methodLink RX3 3 Lib.objectInit ∈ AW := (aw_m1 102 (by decide +kernel) rfl)
theorem mo_X4 : Cond.methodLink RX4 3 Lib.objectInit ∈ AW := (aw_m1 125 (by decide +kernel) rfl)
theorem mo_X5 : Cond.methodLink RX5 3 Lib.objectInit ∈ AW := (aw_m1 212 (by decide +kernel) rfl)
theorem mo_X6 : Cond.methodLink RX6 3 Lib.objectInit ∈ AW := (aw_m2 76 (by decide +kernel) rfl)
theorem mo_X7 : Cond.methodLink RX7 3 Lib.objectInit ∈ AW := (aw_m2 22 (by decide +kernel) rfl)
theorem mo_X8 : Cond.methodLink RX8 3 Lib.objectInit ∈ AW := (aw_m2 134 (by decide +kernel) rfl)
theorem mo_X9 : Cond.methodLink RX9 3 Lib.objectInit ∈ AW := (aw_m2 106 (by decide +kernel) rfl)
theorem mo_X10 : Cond.methodLink RX10 3 Lib.objectInit ∈ AW := (aw_m1 176 (by decide +kernel) rfl)
theorem ml_L_9 : Cond.methodLink RL 9 yX11_init ∈ AW := (aw_m1 20 (by decide +kernel) rfl)
theorem ml_L_12 : Cond.methodLink RL 12 yX12_init ∈ AW := (aw_m5 145 (by decide +kernel) rfl)
theorem mo_X12 : Cond.methodLink RX12 1 Lib.objectInit ∈ AW := (aw_m5 148 (by decide +kernel) rfl)
theorem zw_oi : Cond.instanceMethod Lib.objectInit ∈ AW ∧ Cond.code Lib.objectInit ⟨#[0xb1]⟩ 1 none ∈ AW := ⟨(aw_m1 24 (by decide +kernel) rfl), (aw_m1 25 (by decide +kernel) rfl)⟩
/-! THE CONSTRUCTORS: the cells come one behind another, cell n at address B + n. u says which places still hold null that will hold a reference. -/
def hFin : HF := fun c k => match (zsk c k).1 with
  | 1 => ((zsk c k).2 : Int)
  | 2 => if c = 0 then 78 else if c = 77 ∧ k < 4 then ((149 + 8 * k : Nat) : Int) else -1
  | _ => 0
def hB (u : Nat → Nat → Bool) : HF := fun c k => if u c k = true then -1 else hFin c k
def isR (c k : Nat) : Bool := (zsk c k).1 == 1 || (zsk c k).1 == 2
def wldn (g : zG) (B : Nat) (h : HF) (n : Nat) : va_W := (List.range n).map (fun c => (B + c, zce g B c (h c)))
theorem wldn_all (g : zG) (B : Nat) (h : HF) : wldn g B h zNC = wld g B h := rfl
theorem wldn_at {g : zG} {B a n : Nat} {h : HF} (ha : a < n) : (wldn g B h n)[a]? = some (B + a, zce g B a (h a)) := by
  unfold wldn
  rw [List.getElem?_map, List.getElem?_range ha]
  rfl
theorem wldn_none {g : zG} {B a n : Nat} {h : HF} (ha : ¬ a < n) : (wldn g B h n)[a]? = none := by
  unfold wldn
  rw [List.getElem?_map, List.getElem?_eq_none (by rw [List.length_range]; omega)]
  rfl
theorem wldn_ext {g : zG} {B n : Nat} {h h' : HF} (he : ∀ c, c < n → h c = h' c) : wldn g B h n = wldn g B h' n := by
  unfold wldn
  apply List.map_congr_left
  intro c hc
  rw [he c (List.mem_range.mp hc)]
theorem wldn_succ {g : zG} {B n : Nat} {h : HF} : wldn g B h (n + 1) = wldn g B h n ++ [(B + n, zce g B n (h n))] := by
  unfold wldn
  rw [List.range_succ, List.map_append]
  rfl
theorem wldn_set {g : zG} {B a n : Nat} {h h' : HF} {e : va_E} (ha : a < n) (he : zce g B a (h' a) = e) (ho : ∀ c, c ≠ a → h' c = h c) : (wldn g B h n).set a (B + a, e) = wldn g B h' n := by
  apply List.ext_getElem?
  intro i
  rw [List.getElem?_set]
  by_cases hi : a = i
  · subst hi
    rw [if_pos rfl, if_pos (by show a < (wldn g B h n).length; unfold wldn; rw [List.length_map, List.length_range]; exact ha), wldn_at ha, he]
  · rw [if_neg hi]
    by_cases hc : i < n
    · rw [wldn_at hc, wldn_at hc, ho i (fun q => hi q.symm)]
    · rw [wldn_none hc, wldn_none hc]
theorem wldn_D (g : zG) (B : Nat) (h : HF) (n : Nat) : va_D (aA B) (wldn g B h n) := by
  refine ⟨fun i j p q hi hj e => ?_, fun k q hk => ?_⟩
  · by_cases h1 : i < n
    · by_cases h2 : j < n
      · rw [wldn_at h1] at hi; rw [wldn_at h2] at hj
        cases hi; cases hj
        have e' : B + i = B + j := e
        omega
      · rw [wldn_none h2] at hj; cases hj
    · rw [wldn_none h1] at hi; cases hi
  · by_cases h1 : k < n
    · rw [wldn_at h1] at hk; cases hk; exact Nat.le_add_right B k
    · rw [wldn_none h1] at hk; cases hk
def zNj (U : State) : Prop := ∀ q ∈ zNi, va_Nw (.methodLinkNest q.1 q.2.1 q.2.2 RX11) U
def Cn (p : Program) (s : State) (m : MethodId) (args : Array Value) (meth : Method) (c : Code) (cc : ByteArray) (nL : Nat) (own : String) (g : zG) : Prop :=
  p.tables.exec = Jvm.exec ∧ c.code = cc ∧ c.maxLocals = nL ∧ s.vm.findClass own = some m.cls ∧ (∀ w ∈ AW, w.before args s = true) ∧ va_K g.1 vwCl (zTys g) s ∧ meth.sig.returnType = none ∧ meth.locks = false ∧ zNj s ∧ va_AO RX0 s ∧ va_AO RX4 s ∧ meth.name = "<init>"
def Hn (g : zG) (B : Nat) (s : State) (u : Nat → Nat → Bool) (n : Nat) (H : Heap) (locs : List Loc) : Prop := va_P g.1 vwCl (wldn g B (hB u) n) H ∧ H.size = B + n ∧ va_S (aA B) s.heap H locs ∧ B ≤ s.heap.size
def Rn (g : zG) (B : Nat) (u : Nat → Nat → Bool) (n : Nat) (U : State) : Prop := va_P g.1 vwCl (wldn g B (hB u) n) U.heap ∧ U.heap.size = B + n
def Rnq (g : zG) (B : Nat) (u : Nat → Nat → Bool) (n : Nat) (U : State) : Prop := Rn g B u n U ∧ va_K g.1 vwCl (zTys g) U ∧ zNj U ∧ va_AO RX0 U ∧ va_AO RX4 U
def rmc (n mc ms : Nat) : Room := { frames := n, cells := mc, slots := ms, locals := 40 * n }
abbrev zQn (g : zG) (B : Nat) (u : Nat → Nat → Bool) (n : Nat) : Array Value → State → Outcome → State → Prop := va_Qv (fun _ : Unit => True) (fun _ t => Rn g B u n t) (aA B)
def CTn (l : Launch) (g : zG) (B : Nat) (y : MethodName) (cc : ByteArray) (nL fr mc ms : Nat) (As : List Value) (u : Nat → Nat → Bool) (n : Nat) (u' : Nat → Nat → Bool) : Prop :=
  Met l y (Cond.code y cc nL none :: AW) (rmc fr mc ms) (va_Pc As (Rnq g B u n)) (zQn g B u' (n + mc)) mc ms (aA B)
def IW (y : MethodName) (cc : ByteArray) (nL np : Nat) : Prop := Cond.instanceMethod y ∈ AW ∧ Cond.initialized y.cls ∈ AW ∧ Cond.code y cc nL none ∈ AW ∧ (y.cls ≠ "java/lang/invoke/MethodHandle" ∧ y.cls ≠ "java/lang/invoke/VarHandle" ∧ (parseMethodDescriptor y.desc).map (fun d => d.parameters.length) = some np) ∧ y.name = "<init>"
theorem arrV_ext {cA : ClassId} {N : Nat} {f f' : Nat → Value} (h : ∀ j, j < N → f j = f' j) : arrV cA N f = arrV cA N f' := by
  unfold arrV
  have e : (fun j : Fin N => f j.val) = fun j => f' j.val := funext fun j => h j.val j.isLt
  rw [e]
theorem hfn_all (n : Nat) : ∀ k, isR n k = false → hFin n k = 0 := by
  intro k h
  unfold isR at h
  unfold hFin
  generalize zsk n k = q at h ⊢
  obtain ⟨a, b⟩ := q
  match a, h with
  | 0, _ => rfl
  | 1, h => cases h
  | 2, h => cases h
  | a + 3, _ => rfl
theorem hFin_s {a ci k t : Nat} (ha : kt a = ci + 3) (hq : zfk ci k a = (1, t)) : hFin a k = (t : Int) := by
  unfold hFin
  rw [zsk_obj ha, hq]
  rfl
theorem iw_X0_init : IW yX0_init cX0_init 1 0 := ⟨(aw_m1 50 (by decide +kernel) rfl), (aw_m1 4 (by decide +kernel) rfl), (aw_m1 51 (by decide +kernel) rfl), by decide +kernel, rfl⟩
theorem iw_X1_init : IW yX1_init cX1_init 2 1 := ⟨(aw_m1 29 (by decide +kernel) rfl), (aw_m1 2 (by decide +kernel) rfl), (aw_m1 30 (by decide +kernel) rfl), by decide +kernel, rfl⟩
theorem iw_X2_init : IW yX2_init cX2_init 1 0 := ⟨(aw_m1 235 (by decide +kernel) rfl), (aw_m1 9 (by decide +kernel) rfl), (aw_m1 236 (by decide +kernel) rfl), by decide +kernel, rfl⟩
theorem iw_X3_init : IW yX3_init cX3_init 2 0 := ⟨(aw_m1 100 (by decide +kernel) rfl), (aw_m1 5 (by decide +kernel) rfl), (aw_m1 101 (by decide +kernel) rfl), by decide +kernel, rfl⟩
theorem iw_X4_init : IW yX4_init cX4_init 1 0 := ⟨(aw_m1 123 (by decide +kernel) rfl), (aw_m1 6 (by decide +kernel) rfl), (aw_m1 124 (by decide +kernel) rfl), by decide +kernel, rfl⟩
theorem iw_X5_init : IW yX5_init cX5_init 1 0 := ⟨(aw_m1 210 (by decide +kernel) rfl), (aw_m1 8 (by decide +kernel) rfl), (aw_m1 211 (by decide +kernel) rfl), by decide +kernel, rfl⟩
theorem iw_X6_init : IW yX6_init cX6_init 1 0 := ⟨(aw_m2 74 (by decide +kernel) rfl), (aw_m1 11 (by decide +kernel) rfl), (aw_m2 75 (by decide +kernel) rfl), by decide +kernel, rfl⟩
theorem iw_X7_init : IW yX7_init cX7_init 1 0 := ⟨(aw_m2 20 (by decide +kernel) rfl), (aw_m1 10 (by decide +kernel) rfl), (aw_m2 21 (by decide +kernel) rfl), by decide +kernel, rfl⟩
theorem iw_X8_init : IW yX8_init cX8_init 3 2 := ⟨(aw_m2 132 (by decide +kernel) rfl), (aw_m1 13 (by decide +kernel) rfl), (aw_m2 133 (by decide +kernel) rfl), by decide +kernel, rfl⟩
theorem iw_X9_init : IW yX9_init cX9_init 1 0 := ⟨(aw_m2 104 (by decide +kernel) rfl), (aw_m1 12 (by decide +kernel) rfl), (aw_m2 105 (by decide +kernel) rfl), by decide +kernel, rfl⟩
theorem iw_X10_init : IW yX10_init cX10_init 1 0 := ⟨(aw_m1 174 (by decide +kernel) rfl), (aw_m1 7 (by decide +kernel) rfl), (aw_m1 175 (by decide +kernel) rfl), by decide +kernel, rfl⟩
theorem iw_X11_init : IW yX11_init cX11_init 2 0 := ⟨(aw_m1 21 (by decide +kernel) rfl), (aw_m1 1 (by decide +kernel) rfl), (aw_m1 22 (by decide +kernel) rfl), by decide +kernel, rfl⟩
theorem iw_X12_init : IW yX12_init cX12_init 1 0 := ⟨(aw_m5 146 (by decide +kernel) rfl), (aw_m1 14 (by decide +kernel) rfl), (aw_m5 147 (by decide +kernel) rfl), by decide +kernel, rfl⟩
section ZC
variable {p : Program} {l : Launch} {e : Env} {R : Room} {s : State} {m : MethodId} {args : Array Value} {below : List Frame} {meth : Method} {c : Code} {H : Heap} {locs : List Loc} {cells slots : Nat} {Q : State → Prop} {cc : ByteArray} {nL : Nat} {own : String} {g : zG} {B : Nat} {u : Nat → Nat → Bool} {n : Nat} {pc : Nat} {ls : Array Slot} {st : List Value}
theorem n_new (cn : Cn p s m args meth c cc nL own g) (hn : Hn g B s u n H locs) {C : String} {T : u_T} {N ci idx : Nat} (ty : Nat → FieldType) (hty : ∀ k, k < N → parseFieldDescriptor (T k).2.2.1 = some (ty k)) (hc : vwCl[ci]? = some (C, T, N)) (hin : ∀ w ∈ u_ws C T N, w ∈ AW) (hk : kt n = ci + 3) (hN : kl n = N) (hdf : ∀ j, j < N → defaultValue (ty j) = svv B (zfk ci j n) (if isR n j = true then -1 else 0)) (hfn : ∀ k, isR n k = false → hFin n k = 0) (hcl : Cond.classLink own idx C ∈ AW) (hinst : Cond.instantiable C N ∈ AW) (hini : Cond.initialized C ∈ AW) (hcells : cells + 1 ≤ R.cells) (hslots : slots + N ≤ R.slots) (hd : decode cc pc = .ok (.new idx, 3))
    (kk : ∀ H1, Hn g B s (fun c k => if c = n then isR c k else u c k) (n + 1) H1 locs → W p l e R s m args below meth c H1 locs (cells + 1) (slots + N) Q (F0 m (pc + 3) ls (.ref (B + n) :: st))) : W p l e R s m args below meth c H locs cells slots Q (F0 m pc ls st) := by
  obtain ⟨hx, hb, hml, hown, hts, hK, hr, hlo, hns, hao, hal, hnm⟩ := cn
  obtain ⟨hP, hz, hS, hB0⟩ := hn
  have hKn := hK.1 ci _ hc
  refine W.newcK hx hb hown (hts _ hcl) (hts _ hinst) (hts _ hini) rfl hd hcells hslots hKn.2.1 hz fun H1 kC hkC e1 z1 o1 => ?_
  have hkp : ∀ (k : Nat) (x : Nat × va_E), (wldn g B (hB u) n)[k]? = some x → H1[x.1]? = H[x.1]? := fun k x hx => o1 x.1 (by have := (hP k x hx).lt; omega)
  refine kk H1 ⟨?_, by omega, ⟨Nat.le_trans hS.1 (by omega), fun x h1 h2 => (o1 x (by have := hS.1; omega)).trans (hS.2.1 x h1 h2), hS.2.2⟩, hB0⟩
  rw [wldn_succ, wldn_ext (h' := hB u) (fun c hc => by funext k; unfold hB; simp only [if_neg (show ¬ c = n by omega)])]
  refine (hP.kept hkp).app (fun k x hx => ?_)
  have hz : k < 1 := (List.getElem?_eq_some_iff.mp hx).1
  rw [show k = 0 by omega] at hx
  cases hx
  rw [zce_obj hk]
  refine ⟨_, hc, (u_born ty hts hin hKn hkC e1 hty).to (fun j hj => ?_)⟩
  rw [hdf j hj]
  unfold vp_V
  rw [List.getD_eq_getElem?_getD, List.getElem?_map, List.getElem?_range (by omega)]
  show _ = svv B (zsk n j) (hB _ n j)
  rw [zsk_obj hk]
  unfold hB
  simp only [if_true]
  by_cases q : isR n j = true
  · rw [if_pos q, if_pos q]
  · rw [if_neg q, if_neg q, hfn j (by simpa using q)]
theorem n_newa (cn : Cn p s m args meth c cc nL own g) (hn : Hn g B s u n H locs) {a : Int} (ra : rng a) (hk : kt n = 0) (hN : (kl n : Int) = a) (hcells : cells + 1 ≤ R.cells) (hslots : slots + kl n ≤ R.slots) (hd : decode cc pc = .ok (.newarray .int, 2))
    (kk : ∀ H1, Hn g B s (fun c k => if c = n then false else u c k) (n + 1) H1 locs → W p l e R s m args below meth c H1 locs (cells + 1) (slots + kl n) Q (F0 m (pc + 2) ls (.ref (B + n) :: st))) : W p l e R s m args below meth c H locs cells slots Q (F0 m pc ls (.int (ii a) :: st)) := by
  obtain ⟨hx, hb, hml, hown, hts, hK, hr, hlo, hns, hao, hal, hnm⟩ := cn
  obtain ⟨hP, hz, hS, hB0⟩ := hn
  have hkl := kl_rng n (kt_lt hk (by decide))
  refine va_newaK (atype := .int) (N := kl n) hx hb (hts _ zw_ac) rfl hd rfl (fun q => by have := (ii_lt ra rng_0).mp q; omega) (by rw [ii_cl ra]; omega) (by show kl n * 4 ≤ _; omega) hcells hslots hz fun H1 cA e1 z1 o1 hAr hNm => ?_
  have hcA : cA = g.2.1 := by
    have h2 := (hK.2 0 _ rfl).2
    exact Option.some.inj (hNm.symm.trans h2)
  subst hcA
  have hkp : ∀ (k : Nat) (x : Nat × va_E), (wldn g B (hB u) n)[k]? = some x → H1[x.1]? = H[x.1]? := fun k x hx => o1 x.1 (by have := (hP k x hx).lt; omega)
  refine kk H1 ⟨?_, by omega, ⟨Nat.le_trans hS.1 (by omega), fun x h1 h2 => (o1 x (by have := hS.1; omega)).trans (hS.2.1 x h1 h2), hS.2.2⟩, hB0⟩
  rw [wldn_succ, wldn_ext (h' := hB u) (fun c hc => by funext k; unfold hB; simp only [if_neg (show ¬ c = n by omega)])]
  refine (hP.kept hkp).app (fun k x hx => ?_)
  have hz : k < 1 := (List.getElem?_eq_some_iff.mp hx).1
  rw [show k = 0 by omega] at hx
  cases hx
  rw [zce_arr hk]
  show H1[B + n]? = some (vp_cell _ _)
  rw [e1, vp_cell_i]
  congr 2
  funext j
  have h0 : hFin n j = 0 := by
    unfold hFin
    have hz : zsk n j = (0, 0) := by unfold zsk; rw [hk]
    rw [hz]; rfl
  unfold hB
  simp only [if_true]
  rw [h0]
  rfl
theorem n_anew (cn : Cn p s m args meth c cc nL own g) (hn : Hn g B s u n H locs) {a : Int} {C : String} {t idx : Nat} (ra : rng a) (hC : (t = 1 ∧ C = RX0) ∨ (t = 2 ∧ C = RX4)) (hk : kt n = t) (hN : (kl n : Int) = a) (hcl : Cond.classLink own idx C ∈ AW) (hcells : cells + 1 ≤ R.cells) (hslots : slots + kl n ≤ R.slots) (hd : decode cc pc = .ok (.anewarray idx, 3))
    (kk : ∀ H1, Hn g B s (fun c k => if c = n then decide (k < kl n) else u c k) (n + 1) H1 locs → W p l e R s m args below meth c H1 locs (cells + 1) (slots + kl n) Q (F0 m (pc + 3) ls (.ref (B + n) :: st))) : W p l e R s m args below meth c H locs cells slots Q (F0 m pc ls (.int (ii a) :: st)) := by
  obtain ⟨hx, hb, hml, hown, hts, hK, hr, hlo, hns, hao, hal, hnm⟩ := cn
  obtain ⟨hP, hz, hS, hB0⟩ := hn
  have ht9 : t < 99 := by rcases hC with h | h <;> omega
  have hkl := kl_rng n (kt_lt hk ht9)
  have hcl2 : (ii a).toNatClampNeg = kl n := by rw [ii_cl ra]; omega
  have hover : va_AO C s := by rcases hC with ⟨_, h⟩ | ⟨_, h⟩ <;> rw [h] <;> assumption
  refine W.anew hx hb hown (hts _ hcl) (va_AO.use hover) rfl hd rfl (fun q => by have := (ii_lt ra rng_0).mp q; omega) (by rw [hcl2]; omega) hcells (by rw [hcl2]; exact hslots) fun cA kA comp f1 f2 f3 f4 => ?_
  rw [hcl2]
  generalize hH1 : H.push ({ cls := cA, slots := Array.replicate (kl n) .null, vm := .none } : Cell) = H1
  have z1 : H1.size = H.size + 1 := by rw [← hH1, Array.size_push]
  have e1 : H1[H.size]? = some (arrV cA (kl n) (fun _ => .null)) := by rw [← hH1, Array.getElem?_push_size, ← arrV_new]
  have o1 : ∀ q : Nat, q < H.size → H1[q]? = H[q]? := fun q hq => by rw [← hH1, Array.getElem?_push, if_neg (Nat.ne_of_lt hq)]
  have hcA : ∀ hc : Nat → Int, zce g B n hc = .inl (cA, kl n, .inr (.inr (.inr (.inr (fun k => if hc k < 0 then none else some (B + (hc k).toNat)))))) := by
    intro hc
    unfold zce
    rw [hk]
    rcases hC with ⟨h1, h2⟩ | ⟨h1, h2⟩
    · subst h1; subst h2
      obtain ⟨-, k9, c9, -, -, -, h9⟩ := hK.2 1 _ rfl
      have : g.2.2.1 = cA := Option.some.inj (h9.symm.trans f1)
      show (Sum.inl (g.2.2.1, kl n, _) : va_E) = _
      rw [this]
    · subst h1; subst h2
      obtain ⟨-, k9, c9, -, -, -, h9⟩ := hK.2 2 _ rfl
      have : g.2.2.2 = cA := Option.some.inj (h9.symm.trans f1)
      show (Sum.inl (g.2.2.2, kl n, _) : va_E) = _
      rw [this]
  have hkp : ∀ (k : Nat) (x : Nat × va_E), (wldn g B (hB u) n)[k]? = some x → H1[x.1]? = H[x.1]? := fun k x hx => o1 x.1 ((hP k x hx).lt)
  rw [show (Value.ref H.size) = .ref (B + n) by rw [hz]]
  refine kk H1 ⟨?_, by omega, ⟨Nat.le_trans hS.1 (by omega), fun x h1 h2 => (o1 x (by have := hS.1; omega)).trans (hS.2.1 x h1 h2), hS.2.2⟩, hB0⟩
  rw [wldn_succ, wldn_ext (h' := hB u) (fun c hc => by funext k; unfold hB; simp only [if_neg (show ¬ c = n by omega)])]
  refine (hP.kept hkp).app (fun k x hx => ?_)
  have hz0 : k < 1 := (List.getElem?_eq_some_iff.mp hx).1
  rw [show k = 0 by omega] at hx
  cases hx
  rw [hcA]
  show H1[B + n]? = some (vp_cell _ _)
  rw [← hz, e1, vp_cell_q]
  refine congrArg some (arrV_ext (fun j hj => ?_))
  have h1 : hB (fun c k => if c = n then decide (k < kl n) else u c k) n j = -1 := by
    unfold hB; simp [hj]
  rw [h1]
  rfl
theorem hB_off {u : Nat → Nat → Bool} {a k : Nat} {c : Nat} (hc : c ≠ a) : hB (fun c j => if c = a ∧ j = k then false else u c j) c = hB u c := by
  funext j
  unfold hB
  simp only [if_neg (show ¬ (c = a ∧ j = k) from fun q => hc q.1)]
/-- a reference comes into its field (final, or the spare list's) -/
theorem n_put (cn : Cn p s m args meth c cc nL own g) (hn : Hn g B s u n H locs) {C : String} {T : u_T} {N : Nat} (ty : Nat → FieldType) (hty : ∀ k, k < N → parseFieldDescriptor (T k).2.2.1 = some (ty k)) (hnmT : ∀ a, a < N → ∀ b, b < N → a ≠ b → (T a).2.1 ≠ (T b).2.1) (ci k t : Nat) {a idx : Nat} (hc : vwCl[ci]? = some (C, T, N)) (hin : ∀ w ∈ u_ws C T N, w ∈ AW) (hkN : k < N) (hkF : k < nF ci) (ha : kt a = ci + 3) (han : a < n) (hq : (zfk ci k a).1 = 1 ∨ (zfk ci k a).1 = 2) (hv : hFin a k = (t : Int)) (hT : (T k).1 = own) (hI : (∃ C', ty k = .object C') ∨ ∃ t', ty k = .array t') (hw : Cond.fieldLink own idx (T k).1 (T k).2.1 (T k).2.2.1 ∈ AW) (hd : decode cc pc = .ok (.putfield idx, 3))
    (kk : ∀ H1 locs1, Hn g B s (fun c j => if c = a ∧ j = k then false else u c j) n H1 locs1 → W p l e R s m args below meth c H1 locs1 cells slots Q (F0 m (pc + 3) ls st)) : W p l e R s m args below meth c H locs cells slots Q (F0 m pc ls (.ref (B + t) :: .ref (B + a) :: st)) := by
  obtain ⟨hx, hb, hml, hown, hts, hK, hr, hlo, hns, hao, hal, hnm⟩ := cn
  obtain ⟨hP, hz, hS, hB0⟩ := hn
  have hl := zf_len ha hkF
  have hset : (wldn g B (hB u) n).set a (B + a, .inr (ci, ((List.range (kl a)).map (fun j => svv B (zsk a j) (hB u a j))).set k (.ref (B + t)))) = wldn g B (hB (fun c j => if c = a ∧ j = k then false else u c j)) n := by
    refine wldn_set han ?_ (fun c hc => hB_off hc)
    rw [zce_obj ha, map_set]
    congr 2
    apply List.map_congr_left
    intro j _
    by_cases hj : j = k
    · subst hj
      simp only [if_true]
      have h1 : hB (fun c j' => if c = a ∧ j' = j then false else u c j') a j = (t : Int) := by
        unfold hB; simp; exact hv
      rw [h1, zsk_obj ha]
      unfold svv
      rcases hq with h | h <;> rw [h] <;> (show (if (t : Int) < 0 then Value.null else .ref (B + (t : Int).toNat)) = _; rw [if_neg (by omega)]; rfl)
    · simp only [if_neg hj]
      congr 1
      unfold hB
      simp [hj]
  have hnar : ∀ v : Value, (v = .ref (B + t)) → narrow (ty k) v = v ∧ fits (ty k) v = true := fun v hv => by
    subst hv
    rcases hI with ⟨C', h⟩ | ⟨t', h⟩ <;> rw [h] <;> exact ⟨rfl, rfl⟩
  have hfs : k < ((List.range (kl a)).map (fun j => svv B (zsk a j) (hB u a j))).length := by rw [List.length_map, List.length_range]; exact hl.1
  have he : (wldn g B (hB u) n)[a]? = some (B + a, .inr (ci, (List.range (kl a)).map (fun j => svv B (zsk a j) (hB u a j)))) := by rw [wldn_at han, zce_obj ha]
  have hD := wldn_D g B (hB u) n
  have hap := va_apart (own := own) hts hin ty hty hnmT hK hc
  obtain ⟨r, h1, cell, q1, q2, q3, q4⟩ := hP a _ he
  have hre : r = (C, T, N) := Option.some.inj (h1.symm.trans hc)
  subst hre
  obtain ⟨hSl, hfc, kC, hkC, hkind⟩ := hK.1 ci _ hc
  obtain ⟨cf, kf, fi, f, hi, hsl⟩ := hSl k hkN
  have hlay := hts _ (hin _ (u_in_lay hkN))
  unfold u_lay at hlay
  have hst := (u_facts hfc hkC (u_lays hts hin hkN) hi).1
  have fin : ∀ (H' : Heap), H'[B + a]? = some (cell.setSlot (g.1.2 ci k) (.ref (B + t))) → H'.size = H.size → (∀ q : Nat, q ≠ B + a → H'[q]? = H[q]?) → W p l e R s m args below meth c H' (locs ++ [⟨B + a, g.1.2 ci k⟩]) cells slots Q (F0 m (pc + 3) ls st) := by
    intro H' e1 e2 e3
    refine kk H' _ ⟨?_, by omega, hS.put e2 e3 (hD.2 a _ he), hB0⟩
    rw [← hset]
    exact hP.set hD he ⟨_, hc, t_OB.to (V := updV (vp_V _) k (.ref (B + t))) ⟨_, e1, q2, q3, t_set q4 hap hkN _⟩ (fun j _ => vp_updV_set hfs _ j)⟩ e3
  by_cases hf : (T k).2.2.2 = true
  · rw [if_pos hf] at hlay
    have hcf : m.cls = cf := by
      obtain ⟨_, _, c', _, _, _, -, -, hf', -, -, -, hown2, -⟩ := Cond.laysFinal_spec hlay
      have e1 : c' = cf := by have := hi.symm.trans hf'; simp at this; exact this.1.symm
      rw [hT] at hown2
      rw [← e1]; exact Option.some.inj (hown.symm.trans hown2)
    have h6 := u_fits hfc hkC hkind (Or.inr hlay) hi (hty k hkN) (hnar _ rfl).1 (hnar _ rfl).2
    refine W.putFinK hx hb hown (hts _ hw) hi hst hcf hnm (by rw [q2]; exact h6) q1 q3 (by rw [hsl]; exact k2_hasslot (q4 k hkN)) rfl rfl hd fun H' e1 e2 e3 => ?_
    rw [hsl] at e1 ⊢
    exact fin H' e1 e2 e3
  · rw [if_neg hf] at hlay
    have h6 := u_store hfc hkC hkind hlay hi (hty k hkN) (hnar _ rfl).1 (hnar _ rfl).2
    refine W.putK hx hb (f := f) ⟨hown, hts _ hw, ⟨_, _, _, hi⟩, hst⟩ (by rw [q2]; exact h6) q1 q3 (by rw [hsl]; exact k2_hasslot (q4 k hkN)) rfl rfl hd fun H' e1 e2 e3 => ?_
    rw [hsl] at e1 ⊢
    exact fin H' e1 e2 e3
/-- a reference comes into its place of an array of references -/
theorem n_aast (cn : Cn p s m args meth c cc nL own g) (hn : Hn g B s u n H locs) {t tv a v : Nat} {i : Int} {q : vw_C} (ri : rng i) (ht : (t = 1 ∧ tv = 0 ∧ q = (RX0, TX0, 6)) ∨ (t = 2 ∧ tv = 4 ∧ q = (RX4, TX4, 10))) (ha : kt a = t) (han : a < n) (hv : kt v = tv + 3) (hvn : v < n) (hb0 : 0 ≤ i ∧ i < (kl a : Int)) (hval : hFin a i.toNat = (v : Int)) (hd : decode cc pc = .ok (.aastore, 1))
    (kk : ∀ H1 locs1, Hn g B s (fun c j => if c = a ∧ j = i.toNat then false else u c j) n H1 locs1 → W p l e R s m args below meth c H1 locs1 cells slots Q (F0 m (pc + 1) ls st)) : W p l e R s m args below meth c H locs cells slots Q (F0 m pc ls (.ref (B + v) :: .int (ii i) :: .ref (B + a) :: st)) := by
  obtain ⟨hx, hb, hml, hown, hts, hK, hr, hlo, hns, hao, hal, hnm⟩ := cn
  obtain ⟨hP, hz, hS, hB0⟩ := hn
  have hD := wldn_D g B (hB u) n
  obtain ⟨cA, hcA, hcz, htys⟩ : ∃ cA : ClassId, (∀ hc : Nat → Int, zce g B a hc = .inl (cA, kl a, .inr (.inr (.inr (.inr (fun k => if hc k < 0 then none else some (B + (hc k).toNat))))))) ∧ vwCl[tv]? = some q ∧ (ArrOfT s cA (.object q.1) ∧ va_RA s cA (.object q.1)) := by
    rcases ht with ⟨h1, h2, h3⟩ | ⟨h1, h2, h3⟩
    · subst h1; subst h2; subst h3
      exact ⟨g.2.2.1, fun hc => by unfold zce; rw [ha], rfl, hK.2 1 _ rfl⟩
    · subst h1; subst h2; subst h3
      exact ⟨g.2.2.2, fun hc => by unfold zce; rw [ha], rfl, hK.2 2 _ rfl⟩
  have hea : (wldn g B (hB u) n)[a]? = some (B + a, .inl (cA, kl a, .inr (.inr (.inr (.inr (fun k => if hB u a k < 0 then none else some (B + (hB u a k).toNat))))))) := by rw [wldn_at han, hcA]
  have hev : (wldn g B (hB u) n)[v]? = some (B + v, .inr (tv, (List.range (kl v)).map (fun k => svv B (zsk v k) (hB u v k)))) := by rw [wldn_at hvn, zce_obj hv]
  have hin := ii_in ri hb0
  have hlt : (ii i).toNatClampNeg < kl a := Nat.not_le.mp fun q => hin (Or.inr q)
  have h0 : ¬ ii i < 0 := fun q => hin (Or.inl q)
  obtain ⟨r', hr', cellV, g1, g2, g3, -⟩ := hP v _ hev
  have hcls := (hK.1 tv q hcz).2
  obtain ⟨kA, comp, k1, k2, k3, -⟩ := htys.2
  have hcomp : comp = g.1.1 tv := Option.some.inj (k3.symm.trans hcls.1)
  subst hcomp
  obtain ⟨kC, hkC, -⟩ := hcls.2
  refine W.aast hx hb (hP a _ hea) (fun q h => by cases h) (fun h => by cases h) k1 k2 rfl hkC ⟨h0, by show _ < (arrV _ _ _).slots.size; rw [arrV_size]; exact hlt⟩ g1 (fun q h => by rw [g3] at h; cases h) (by rw [g2]; exact hkC) (by rw [g2]; exact va_assign hcls) rfl rfl hd fun H1 e z oq => ?_
  refine kk H1 _ ⟨?_, by omega, hS.put z oq (hD.2 a _ hea), hB0⟩
  rw [← wldn_set (h := hB u) (e := .inl (cA, kl a, .inr (.inr (.inr (.inr (va_up (fun k => if hB u a k < 0 then none else some (B + (hB u a k).toNat)) i.toNat (some (B + v)))))))) han (by
    rw [hcA]
    refine congrArg (fun z => (Sum.inl (cA, kl a, Sum.inr (Sum.inr (Sum.inr (Sum.inr z)))) : va_E)) ?_
    funext j
    unfold va_up
    by_cases hj : j = i.toNat
    · subst hj
      have h1 : hB (fun c j' => if c = a ∧ j' = i.toNat then false else u c j') a i.toNat = (v : Int) := by
        unfold hB; simp; exact hval
      rw [h1, if_neg (by omega), if_pos rfl]; rfl
    · rw [if_neg hj]
      have h1 : hB (fun c j' => if c = a ∧ j' = i.toNat then false else u c j') a j = hB u a j := by
        unfold hB
        simp [hj]
      rw [h1]) (fun c hc => hB_off hc)]
  refine hP.set hD hea ?_ oq
  show H1[B + a]? = some (vp_cell _ _)
  rw [e, vp_cell_q, vp_cell_q, arrV_store, ii_cl ri]
  congr 2
  funext q
  by_cases hq : q = i.toNat
  · subst hq
    simp [updV, va_up, va_rf]
  · simp [updV, va_up, hq]
/-- a reference that stands in its field already -/
theorem n_get (cn : Cn p s m args meth c cc nL own g) (hn : Hn g B s u n H locs) {C : String} {T : u_T} {N : Nat} (ci k t : Nat) {a idx : Nat} (hc : vwCl[ci]? = some (C, T, N)) (hin : ∀ w ∈ u_ws C T N, w ∈ AW) (hkN : k < N) (hkF : k < nF ci) (ha : kt a = ci + 3) (han : a < n) (hq : (zfk ci k a).1 = 1 ∨ (zfk ci k a).1 = 2) (hv : hB u a k = (t : Int)) (hw : Cond.fieldLink own idx (T k).1 (T k).2.1 (T k).2.2.1 ∈ AW) (hd : decode cc pc = .ok (.getfield idx, 3)) (kk : W p l e R s m args below meth c H locs cells slots Q (F0 m (pc + 3) ls (.ref (B + t) :: st))) : W p l e R s m args below meth c H locs cells slots Q (F0 m pc ls (.ref (B + a) :: st)) := by
  obtain ⟨hx, hb, hml, hown, hts, hK, hr, hlo, hns, hao, hal, hnm⟩ := cn
  obtain ⟨hP, hz, hS, hB0⟩ := hn
  refine va_get (D := g.1) (ci := ci) (v := .ref (B + t)) (T := T) hx hb hts hin hown hK hP a (by rw [wldn_at han, zce_obj ha]) hc k hkN (hts _ hw) (fun _ q => q) ?_ hd kk
  rw [zf_at ha hkF, hv]
  congr 1
  unfold svv
  rcases hq with h | h <;> rw [h] <;> (show (if (t : Int) < 0 then Value.null else .ref (B + (t : Int).toNat)) = _; rw [if_neg (by omega)]; rfl)
theorem n_vret (cn : Cn p s m args meth c cc nL own g) (hn : Hn g B s u n H locs) {u' : Nat → Nat → Bool} {n0 : Nat} (hnn : n = n0 + cells) (he : ∀ c, c < n → hB u c = hB u' c) (hd : decode cc pc = .ok (.return_, 1)) : W p l e R s m args below meth c H locs cells slots (MQ below (zQn g B u' (n0 + cells)) args s cells slots (aA B)) (F0 m pc ls []) := by
  obtain ⟨hx, hb, hml, hown, hts, hK, hr, hlo, hns, hao, hal, hnm⟩ := cn
  obtain ⟨hP, hz, hS, hB0⟩ := hn
  subst hnn
  rw [wldn_ext he] at hP
  have hlocks : meth.locks = false := hlo
  exact W.vret hx hb hr (fun t ht hW => ⟨⟨(), rfl, trivial, by rw [ht]; exact hP, by rw [ht]; exact hz⟩, hS.F ht⟩) hS.2.2 hd
theorem n_enter {y : MethodName} {fr mc ms : Nat} {As : List Value} {u' : Nat → Nat → Bool} {own : String} (hy : plainName y.cls = true) (ho : y.cls = own) (hi : y.name = "<init>") (hl : (lg_sl As).length ≤ nL)
    (body : ∀ (p : Program) (e : Env) (s : State) (m : MethodId) (args : Array Value) (below : List Frame) (meth : Method) (c : Code) (ls : Array Slot), Cn p s m args meth c cc nL own g → Hn g B s u n s.heap [] → lv_has ls nL (lv_args 0 As) → W p l e (rmc fr mc ms) s m args below meth c s.heap [] 0 0 (MQ below (zQn g B u' (n + mc)) args s mc ms (aA B)) (F0 m 0 ls [])) : CTn l g B y cc nL fr mc ms As u n u' := by
  refine Met.ofW (cc := cc) (maxL := nL) (ret := none) hy rfl ?_
  intro p e s m args below meth c s₁ B' hml hv
  obtain ⟨rfl, ⟨hP, hz⟩, hK, hN, h1, h2⟩ := hv
  have hts := atoms_spec (ws := Cond.code y cc nL none :: AW) B'.pre
  have hown : s.vm.findClass own = some m.cls := by rw [← ho]; exact findClass_of_methodNamed B'.named
  have hnm : meth.name = "<init>" := ((name_of_methodNamed B'.named B'.method).1).trans hi
  have hle := lv_entry As (n := nL) hl
  rw [lg_entry_eq]
  exact body p e s m _ below meth c _ ⟨B'.exec, B'.bytes, hml, hown, fun w hw => hts w (List.mem_cons_of_mem _ hw), hK, B'.returns, B'.notSynchronized, hN, h1, h2, hnm⟩ ⟨hP, hz, va_S.rf, by omega⟩ hle
theorem nblind {As : List Value} : FrameBlind (va_Pc As (Rnq g B u n)) := fun a U gf mk q => ⟨q.1, q.2.1, va_K.moved (u := U) (U := U.calling gf mk a) (Vm.Alike.refl U.vm) q.2.2.1, fun w hw => va_Nw.same rfl (rfl : U.vm = (U.calling gf mk a).vm) (q.2.2.2.1 w hw), q.2.2.2.2.1.moved (Vm.Alike.refl U.vm), q.2.2.2.2.2.moved (Vm.Alike.refl U.vm)⟩
theorem npre {As : List Value} (cn : Cn p s m args meth c cc nL own g) (hn : Hn g B s u n H locs) : ∀ U : State, U.heap = H → s.WarmedH U.vm → va_Pc As (Rnq g B u n) As.toArray U := fun U hU hW => by
  obtain ⟨hx, hb, hml, hown, hts, hK, hr, hlo, hns, hao, hal, hnm⟩ := cn
  exact ⟨rfl, ⟨by rw [hU]; exact hn.1, by rw [hU]; exact hn.2.1⟩, va_K.moved hW.alike hK, fun w hw => va_Nw.warmM hW (hns w hw), hao.moved hW.alike, hal.moved hW.alike⟩
theorem n_run {y : MethodName} {cy : ByteArray} {ny fr mc ms np idx b : Nat} {As rest : List Value} {u' : Nat → Nat → Bool} (cn : Cn p s m args meth c cc nL own g) (hn : Hn g B s u n H locs) (hM : CTn l g B y cy ny fr mc ms (.ref (B + b) :: As) u n u') (hw : IW y cy ny np) (hl : Cond.methodLink own idx y ∈ AW ∨ (own, idx, y) ∈ zNi) (hR : (rmc fr mc ms).frames + 1 ≤ R.frames ∧ 8 + (ny + 11) + (rmc fr mc ms).locals ≤ R.locals) (hcs : cells + mc ≤ R.cells ∧ slots + ms ≤ R.slots) (hnp : As.length = np) (hls : ls.size = nL) (hst : st = As.reverse ++ .ref (B + b) :: rest) (hr : (rest.map fun v => v.category).sum ≤ 8) (hd : decode cc pc = .ok (.invokespecial idx, 3))
    (kk : ∀ H1 locs1, Hn g B s u' (n + mc) H1 locs1 → W p l e R s m args below meth c H1 locs1 (cells + mc) (slots + ms) Q (F0 m (pc + 3) ls rest)) : W p l e R s m args below meth c H locs cells slots Q (F0 m pc ls st) := by
  have cn0 := cn
  obtain ⟨hx, hb, hml, hown, hts, hK, hrt, hlo, hns, hao, hal, hnm⟩ := cn
  obtain ⟨w1, w2, w3, w4, w5⟩ := hw
  have hrun : va_Run p l e R s m args below meth c H locs cells slots mc ms (F0 m pc ls st) rest (zQn g B u' (n + mc) (Value.ref (B + b) :: As).toArray) (aA B) := by
    rcases hl with hl | hl
    · exact va_runI (Ts := AW) (bytes := cy) (maxL := ny) (n := np) ⟨hx, hb, hml, hown, hts⟩ hM ⟨callB_of np hts (aw_cons w3) rfl rfl rfl (hts _ w2) (hts _ hl) w4 hR, w5, hts _ w1⟩ ⟨nblind, npre cn0 hn⟩ rfl hnp hls hst (lv_room hr) hd hcs
    · refine va_runIN (Ts := AW) (host := RX11) (bytes := cy) (maxL := ny) (n := np) ⟨hx, hb, hml, hown, hts⟩ hM ⟨⟨⟨rfl, rfl, hR.1, hR.2, pay_in hts (aw_cons w3), List.mem_cons_self⟩, hts _ w3, hts _ w2, ⟨w4.1, w4.2.1⟩, fun sig q => ?_, va_Nw.use rfl (hns _ hl)⟩, w5, hts _ w1⟩ ⟨nblind, npre cn0 hn⟩ rfl hnp hls hst (lv_room hr) hd hcs
      have h3 := w4.2.2
      rw [q] at h3
      exact (Option.some.inj h3).symm
  refine va_callv hrun hn.2.2.1 (fun q _ h => h) (fun q h => h) (fun v t H1 locs1 ht hvm hw hB hz1 hk1 hS => ?_)
  obtain ⟨hP1, hs1⟩ := hB
  rw [ht] at hP1 hs1
  exact kk H1 locs1 ⟨hP1, hs1, hS, hn.2.2.2⟩
end ZC
