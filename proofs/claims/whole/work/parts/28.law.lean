/-! THE CLAIM OUT OF ONE WALK OF THE LAW'S BODY. Your part is whole_start (and what it stands on); all else here is the same for every law, but numbers. -/
def R_law : String := "AlgebraCabinetLaw"
def lw_P (b : Addr) (xs : List Int32) (args : Array Value) (s : State) : Prop := args = #[.ref b] ∧ s.IntsAt b xs ∧ xs.length ≤ 3072 ∧ (Jvm.Cond.and given_1 narrow_1).before args s = true
def lw_Q (_ : Array Value) (s : State) (o : Outcome) (t : State) : Prop := o = .returned (some (.int 1)) ∧ Framed s o t [] 600000 7302250
def lw_Z (below : List Frame) (a : Array Value) (s : State) : State → Prop := fun t => ∃ o, t.status = .running ∧ Ended t below o ∧ lw_Q a s o t
/-- the law's own end, with 1 on the stack, nothing written that was there before, its room as the claim has it -/
theorem lw_ret {p : Program} {l : Launch} {e : Env} {s : State} {m : MethodId} {below : List Frame} {meth : Method} {c : Code} {b : Nat} (hx : p.tables.exec = Jvm.exec) (hb : c.code = code) (hr : meth.sig.returnType = ret) (hlocks : meth.locks = false) {pc : Nat} {H : Heap} {ls : Array Slot} (hdg : decode code pc = .ok (.ireturn, 1)) : W p l e room_1 s m #[Value.ref b] below meth c H [] 600000 7302250 (lw_Z below #[Value.ref b] s) (F0 m pc ls [.int 1]) := by
  intro T hT X
  obtain ⟨fs, hret, hrun, hended, hW, hframe⟩ := X.leave (v := some (.int 1)) (hlocks := hlocks) (fun h => by rw [hr] at h; cases h)
  have hmeth' : T.vm.method? m = some meth := X.method'
  refine ⟨T.setFrames fs, ?_, .returned (some (.int 1)), hrun, hended, rfl, ⟨_, rfl⟩, hW, hframe⟩
  jvm_step X.here [X.here.top, hx, hb, hdg, hmeth', hr, ret, narrow_b1]
  (try refine ⟨rfl, ?_⟩); (try refine ⟨rfl, ?_⟩)
  first | (intro acts; rw [hret _ acts rfl rfl rfl]) | rw [hret _ _ rfl rfl rfl]
  exact Steps.refl _
/-- what holds at the law's entry: the machine, the code, the tables' words (any of lw_tbl by 'hts w (by decide +kernel)'), the script of L ints xs at the cell b, what the Statement gives of the start (any of its parts by flat_of_before) -/
def lw_At (p : Program) (s : State) (m : MethodId) (meth : Method) (c : Code) (b L : Nat) (xs : Nat → Int32) : Prop :=
  p.tables.exec = Jvm.exec ∧ c.code = code ∧ meth.sig.returnType = ret ∧ c.maxLocals = 4 ∧ s.vm.findClass R_law = some m.cls ∧ (∀ w ∈ lw_tbl, w.before #[Value.ref b] s = true) ∧ va_X b L xs s s.heap ∧ b < s.heap.size ∧ meth.locks = false ∧ (Jvm.Cond.and given_1 narrow_1).before #[Value.ref b] s = true

/-! THE LAW'S WALK over the lifted methods -/
def Lx (p : Program) (s : State) (m : MethodId) (meth : Method) (c : Code) (b L : Nat) (xs : Nat → Int32) (g : zG) : Prop := Cx p s m #[Value.ref b] meth c code 4 R_law ret g s.heap.size ∧ va_X b L xs s s.heap ∧ b < s.heap.size ∧ L ≤ 3072
section ZW
variable {p : Program} {l : Launch} {e : Env} {R : Room} {s : State} {m : MethodId} {args : Array Value} {below : List Frame} {meth : Method} {c : Code} {H : Heap} {locs : List Loc} {cells slots : Nat} {Q : State → Prop} {cc : ByteArray} {nL : Nat} {own : String} {ret' : Option FieldType} {g : zG} {B : Nat} {h : HF} {pc : Nat} {ls : Array Slot} {st : List Value} {b L : Nat} {xs : Nat → Int32}
theorem l_arg (lx : Lx p s m meth c b L xs g) (hp : Hp g s.heap.size s h H locs) {x j : Int} {v1 v2 : Value} (hl : lv_has ls 4 [(0, .ref b), (1, v1), (2, v2), (3, .int (ii x))]) (hj : 0 ≤ x + j ∧ x + j < (L : Int)) (d0 : decode code pc = .ok (.aload_n 0, 1)) (d1 : decode code (pc + 1) = .ok (.iload_n 3, 1)) (d2 : decode code (pc + 1 + 1) = .ok (.iconst j, 1)) (d3 : decode code (pc + 1 + 1 + 1) = .ok (.iadd, 1)) (d4 : decode code (pc + 1 + 1 + 1 + 1) = .ok (.iaload, 1)) (kk : W p l e R s m #[Value.ref b] below meth c H locs cells slots Q (F0 m (pc + 1 + 1 + 1 + 1 + 1) ls (.int (ii (xs (x + j).toNat).toInt) :: st))) : W p l e R s m #[Value.ref b] below meth c H locs cells slots Q (F0 m pc ls st) := by
  obtain ⟨cx, hX, hbl, hL⟩ := lx
  have rj : rng (x + j) := ⟨by omega, by omega⟩
  refine lv_aload_n cx.1 cx.2.1 d0 rfl (lv_at hl 0 rfl) ?_
  refine lv_iload_n cx.1 cx.2.1 d1 rfl (lv_at hl 3 rfl) ?_
  refine lv_iconst (v := ii j) cx.1 cx.2.1 d2 rfl ?_
  refine lv_iadd cx.1 cx.2.1 d3 ?_
  rw [ii_add, wr_id rj]
  refine va_sld (A := aA s.heap.size) cx.1 cx.2.1 hX hbl (Nat.not_le.mpr hbl) hp.2.2 (ii_in rj hj) d4 ?_
  rw [ii_cl rj, ← ti_ii (xs (x + j).toNat)]
  exact kk
theorem l_arg0 (lx : Lx p s m meth c b L xs g) (hp : Hp g s.heap.size s h H locs) {x : Int} {v1 v2 : Value} (hl : lv_has ls 4 [(0, .ref b), (1, v1), (2, v2), (3, .int (ii x))]) (hj : 0 ≤ x ∧ x < (L : Int)) (d0 : decode code pc = .ok (.aload_n 0, 1)) (d1 : decode code (pc + 1) = .ok (.iload_n 3, 1)) (d4 : decode code (pc + 1 + 1) = .ok (.iaload, 1)) (kk : W p l e R s m #[Value.ref b] below meth c H locs cells slots Q (F0 m (pc + 1 + 1 + 1) ls (.int (ii (xs x.toNat).toInt) :: st))) : W p l e R s m #[Value.ref b] below meth c H locs cells slots Q (F0 m pc ls st) := by
  obtain ⟨cx, hX, hbl, hL⟩ := lx
  have rj : rng x := ⟨by omega, by omega⟩
  refine lv_aload_n cx.1 cx.2.1 d0 rfl (lv_at hl 0 rfl) ?_
  refine lv_iload_n cx.1 cx.2.1 d1 rfl (lv_at hl 3 rfl) ?_
  refine va_sld (A := aA s.heap.size) cx.1 cx.2.1 hX hbl (Nat.not_le.mpr hbl) hp.2.2 (ii_in rj hj) d4 ?_
  rw [ii_cl rj, ← ti_ii (xs x.toNat)]
  exact kk
theorem l_call {y : MethodName} {cy : ByteArray} {ny k np idx b' : Nat} {ry : Option FieldType} {C : String} {T : u_T} {N : Nat} {As rest : List Value} {x : RO} {r : Int} {h1 : HF} (cx : Cx p s m args meth c cc nL own ret' g B) (hp : Hp g B s h H locs) (hM : CTi l g B y cy ny ry k (.ref (B + b') :: As) h x) (ci : Nat) (hb : kt b' = ci + 3) (h9 : ci < 90) (hc : vwCl[ci]? = some (C, T, N)) (hw : VW C y cy ny ry np) (hl : Cond.methodLink own idx y ∈ AW) (hk : (rmn k).frames + 1 ≤ R.frames ∧ 8 + (ny + 11) + (rmn k).locals ≤ R.locals) (hcs : cells ≤ R.cells ∧ slots ≤ R.slots) (hnp : As.length = np) (hls : ls.size = nL) (hst : st = As.reverse ++ .ref (B + b') :: rest) (hr : (rest.map fun v => v.category).sum ≤ 8) (hd : decode cc pc = .ok (.invokevirtual idx, 3)) (hx : x = some (r, h1))
    (kk : ∀ H1 locs1, rng r → Hp g B s h1 H1 locs1 → W p l e R s m args below meth c H1 locs1 cells slots Q (F0 m (pc + 3) ls (.int (ii r) :: rest))) : W p l e R s m args below meth c H locs cells slots Q (F0 m pc ls st) := by
  have hts := cx.2.2.2.2.1
  have hrun : va_Run p l e R s m args below meth c H locs cells slots 0 0 (F0 m pc ls st) rest (zQi g B (r, h1) (Value.ref (B + b') :: As).toArray) (aA B) :=
    va_runV (Ts := AW) (C := C) (bytes := cy) (maxL := ny) (ret := ry) (n := np) ⟨cx.1, cx.2.1, cx.2.2.1, cx.2.2.2.1, hts⟩ (hM _ hx) ⟨callB_of np hts (aw_cons hw.2.2.2.1) rfl rfl rfl (hts _ hw.2.2.1) (hts _ hl) hw.2.2.2.2.1 hk, hts _ hw.1, hts _ hw.2.1⟩ ⟨zblind, va_recv cx.2.2.2.2.2.1 hp.1 hc (by rw [wld_at (kt_lt hb (by omega)), zce_obj hb]), zpre cx hp⟩ rfl hnp hls hst (lv_room hr) hd hcs
  refine va_calli hrun hp.2.2 (fun q _ h => h) (fun q h => h) (fun r' u t H1 locs1 ht hvm hw hB hz1 hk1 hS => ?_)
  obtain ⟨rfl, hrg, rfl⟩ := hw
  obtain ⟨hP1, hG1, -⟩ := hB
  rw [ht] at hP1
  exact kk H1 locs1 hrg ⟨hP1, hG1, hS⟩
end ZW
def PS_feed (F : Nat) (Inv : HF → Prop) : Prop := ∀ (h : HF) (a1 : Int) (a2 : Int) (a3 : Int) (a4 : Int) (a5 : Int), Inv h → rng a1 → rng a2 → rng a3 → rng a4 → rng a5 → ∃ (r : Int) (h1 h2 : HF), fX11_feed F 0 a1 a2 a3 a4 a5 h = some (r, h1) ∧ fX12_feed F 181 a1 a2 a3 a4 a5 h1 = some (r, h2) ∧ Inv h2
def PS_trim (F : Nat) (Inv : HF → Prop) : Prop := ∀ (h : HF) (a1 : Int), Inv h → rng a1 → ∃ (r : Int) (h1 h2 : HF), fX11_trim F 0 a1 h = some (r, h1) ∧ fX12_trim F 181 a1 h1 = some (r, h2) ∧ Inv h2
def PS_out (F : Nat) (Inv : HF → Prop) : Prop := ∀ (h : HF) (a1 : Int), Inv h → rng a1 → ∃ (r : Int) (h1 h2 : HF), fX11_out F 0 a1 h = some (r, h1) ∧ fX12_out F 181 a1 h1 = some (r, h2) ∧ Inv h2
def PS_make (F : Nat) (Inv : HF → Prop) : Prop := ∀ (h : HF) (a1 : Int) (a2 : Int) (a3 : Int), Inv h → rng a1 → rng a2 → rng a3 → ∃ (r : Int) (h1 h2 : HF), fX11_make F 0 a1 a2 a3 h = some (r, h1) ∧ fX12_make F 181 a1 a2 a3 h1 = some (r, h2) ∧ Inv h2
def PS_set (F : Nat) (Inv : HF → Prop) : Prop := ∀ (h : HF) (a1 : Int) (a2 : Int) (a3 : Int) (a4 : Int) (a5 : Int), Inv h → rng a1 → rng a2 → rng a3 → rng a4 → rng a5 → ∃ (r : Int) (h1 h2 : HF), fX11_set F 0 a1 a2 a3 a4 a5 h = some (r, h1) ∧ fX12_set F 181 a1 a2 a3 a4 a5 h1 = some (r, h2) ∧ Inv h2
def PS_cell (F : Nat) (Inv : HF → Prop) : Prop := ∀ (h : HF) (a1 : Int) (a2 : Int) (a3 : Int) (a4 : Int) (a5 : Int), Inv h → rng a1 → rng a2 → rng a3 → rng a4 → rng a5 → ∃ (r : Int) (h1 h2 : HF), fX11_cell F 0 a1 a2 a3 a4 a5 h = some (r, h1) ∧ fX12_cell F 181 a1 a2 a3 a4 a5 h1 = some (r, h2) ∧ Inv h2
def PS_stamp (F : Nat) (Inv : HF → Prop) : Prop := ∀ (h : HF) (a1 : Int) (a2 : Int) (a3 : Int) (a4 : Int) (a5 : Int), Inv h → rng a1 → rng a2 → rng a3 → rng a4 → rng a5 → ∃ (r : Int) (h1 h2 : HF), fX11_stamp F 0 a1 a2 a3 a4 a5 h = some (r, h1) ∧ fX12_stamp F 181 a1 a2 a3 a4 a5 h1 = some (r, h2) ∧ Inv h2
def PS_about (F : Nat) (Inv : HF → Prop) : Prop := ∀ (h : HF) (a1 : Int) (a2 : Int), Inv h → rng a1 → rng a2 → ∃ (r : Int) (h1 h2 : HF), fX11_about F 0 a1 a2 h = some (r, h1) ∧ fX12_about F 181 a1 a2 h1 = some (r, h2) ∧ Inv h2
def PS_drop (F : Nat) (Inv : HF → Prop) : Prop := ∀ (h : HF) (a1 : Int), Inv h → rng a1 → ∃ (r : Int) (h1 h2 : HF), fX11_drop F 0 a1 h = some (r, h1) ∧ fX12_drop F 181 a1 h1 = some (r, h2) ∧ Inv h2
def PS_tell (F : Nat) (Inv : HF → Prop) : Prop := ∀ (h : HF) (a1 : Int), Inv h → rng a1 → ∃ (r : Int) (h1 h2 : HF), fX11_tell F 0 a1 h = some (r, h1) ∧ fX12_tell F 181 a1 h1 = some (r, h2) ∧ Inv h2
def PS_read (F : Nat) (Inv : HF → Prop) : Prop := ∀ (h : HF) (a1 : Int), Inv h → rng a1 → ∃ (r : Int) (h1 h2 : HF), fX11_read F 0 a1 h = some (r, h1) ∧ fX12_read F 181 a1 h1 = some (r, h2) ∧ Inv h2
def PS_undo (F : Nat) (Inv : HF → Prop) : Prop := ∀ (h : HF) , Inv h → ∃ (r : Int) (h1 h2 : HF), fX11_undo F 0  h = some (r, h1) ∧ fX12_undo F 181  h1 = some (r, h2) ∧ Inv h2
def PS_traits (F : Nat) (Inv : HF → Prop) : Prop := ∀ (h : HF) (a1 : Int) (a2 : Int), Inv h → rng a1 → rng a2 → ∃ (r : Int) (h1 h2 : HF), fX11_traits F 0 a1 a2 h = some (r, h1) ∧ fX12_traits F 181 a1 a2 h1 = some (r, h2) ∧ Inv h2
def PS_powers (F : Nat) (Inv : HF → Prop) : Prop := ∀ (h : HF) (a1 : Int) (a2 : Int) (a3 : Int), Inv h → rng a1 → rng a2 → rng a3 → ∃ (r : Int) (h1 h2 : HF), fX11_powers F 0 a1 a2 a3 h = some (r, h1) ∧ fX12_powers F 181 a1 a2 a3 h1 = some (r, h2) ∧ Inv h2
def PS_centre (F : Nat) (Inv : HF → Prop) : Prop := ∀ (h : HF) (a1 : Int) (a2 : Int), Inv h → rng a1 → rng a2 → ∃ (r : Int) (h1 h2 : HF), fX11_centre F 0 a1 a2 h = some (r, h1) ∧ fX12_centre F 181 a1 a2 h1 = some (r, h2) ∧ Inv h2
def PS_laws (F : Nat) (Inv : HF → Prop) : Prop := ∀ (h : HF) (a1 : Int), Inv h → rng a1 → ∃ (r : Int) (h1 h2 : HF), fX11_laws F 0 a1 h = some (r, h1) ∧ fX12_laws F 181 a1 h1 = some (r, h2) ∧ Inv h2
def PS_fault (F : Nat) (Inv : HF → Prop) : Prop := ∀ (h : HF) , Inv h → ∃ (r : Int) (h1 h2 : HF), fX11_fault F 0  h = some (r, h1) ∧ fX12_fault F 181  h1 = some (r, h2) ∧ Inv h2
def PS_holds (F : Nat) (Inv : HF → Prop) : Prop := ∀ (h : HF) (a1 : Int) (a2 : Int), Inv h → rng a1 → rng a2 → ∃ (r : Int) (h1 h2 : HF), fX11_holds F 0 a1 a2 h = some (r, h1) ∧ fX12_holds F 181 a1 a2 h1 = some (r, h2) ∧ Inv h2
def PS_fails (F : Nat) (Inv : HF → Prop) : Prop := ∀ (h : HF) (a1 : Int) (a2 : Int) (a3 : Int), Inv h → rng a1 → rng a2 → rng a3 → ∃ (r : Int) (h1 h2 : HF), fX11_fails F 0 a1 a2 a3 h = some (r, h1) ∧ fX12_fails F 181 a1 a2 a3 h1 = some (r, h2) ∧ Inv h2
def PS_witness (F : Nat) (Inv : HF → Prop) : Prop := ∀ (h : HF) (a1 : Int) (a2 : Int) (a3 : Int), Inv h → rng a1 → rng a2 → rng a3 → ∃ (r : Int) (h1 h2 : HF), fX11_witness F 0 a1 a2 a3 h = some (r, h1) ∧ fX12_witness F 181 a1 a2 a3 h1 = some (r, h2) ∧ Inv h2
def PS_span (F : Nat) (Inv : HF → Prop) : Prop := ∀ (h : HF) (a1 : Int) (a2 : Int), Inv h → rng a1 → rng a2 → ∃ (r : Int) (h1 h2 : HF), fX11_span F 0 a1 a2 h = some (r, h1) ∧ fX12_span F 181 a1 a2 h1 = some (r, h2) ∧ Inv h2
def PS_part (F : Nat) (Inv : HF → Prop) : Prop := ∀ (h : HF) (a1 : Int) (a2 : Int), Inv h → rng a1 → rng a2 → ∃ (r : Int) (h1 h2 : HF), fX11_part F 0 a1 a2 h = some (r, h1) ∧ fX12_part F 181 a1 a2 h1 = some (r, h2) ∧ Inv h2
def PS_sub (F : Nat) (Inv : HF → Prop) : Prop := ∀ (h : HF) (a1 : Int) (a2 : Int) (a3 : Int), Inv h → rng a1 → rng a2 → rng a3 → ∃ (r : Int) (h1 h2 : HF), fX11_sub F 0 a1 a2 a3 h = some (r, h1) ∧ fX12_sub F 181 a1 a2 a3 h1 = some (r, h2) ∧ Inv h2
def PS_link (F : Nat) (Inv : HF → Prop) : Prop := ∀ (h : HF) (a1 : Int) (a2 : Int) (a3 : Int), Inv h → rng a1 → rng a2 → rng a3 → ∃ (r : Int) (h1 h2 : HF), fX11_link F 0 a1 a2 a3 h = some (r, h1) ∧ fX12_link F 181 a1 a2 a3 h1 = some (r, h2) ∧ Inv h2
def PS_congruence (F : Nat) (Inv : HF → Prop) : Prop := ∀ (h : HF) (a1 : Int) (a2 : Int), Inv h → rng a1 → rng a2 → ∃ (r : Int) (h1 h2 : HF), fX11_congruence F 0 a1 a2 h = some (r, h1) ∧ fX12_congruence F 181 a1 a2 h1 = some (r, h2) ∧ Inv h2
def PS_bound (F : Nat) (Inv : HF → Prop) : Prop := ∀ (h : HF) (a1 : Int) (a2 : Int) (a3 : Int) (a4 : Int), Inv h → rng a1 → rng a2 → rng a3 → (a4 = 0 ∨ a4 = 1) → ∃ (r : Int) (h1 h2 : HF), fX11_bound F 0 a1 a2 a3 a4 h = some (r, h1) ∧ fX12_bound F 181 a1 a2 a3 a4 h1 = some (r, h2) ∧ Inv h2
def PS_quotient (F : Nat) (Inv : HF → Prop) : Prop := ∀ (h : HF) (a1 : Int) (a2 : Int) (a3 : Int), Inv h → rng a1 → rng a2 → rng a3 → ∃ (r : Int) (h1 h2 : HF), fX11_quotient F 0 a1 a2 a3 h = some (r, h1) ∧ fX12_quotient F 181 a1 a2 a3 h1 = some (r, h2) ∧ Inv h2
def PS_map (F : Nat) (Inv : HF → Prop) : Prop := ∀ (h : HF) (a1 : Int) (a2 : Int) (a3 : Int) (a4 : Int), Inv h → rng a1 → rng a2 → rng a3 → rng a4 → ∃ (r : Int) (h1 h2 : HF), fX11_map F 0 a1 a2 a3 a4 h = some (r, h1) ∧ fX12_map F 181 a1 a2 a3 a4 h1 = some (r, h2) ∧ Inv h2
def PS_alike (F : Nat) (Inv : HF → Prop) : Prop := ∀ (h : HF) (a1 : Int) (a2 : Int), Inv h → rng a1 → rng a2 → ∃ (r : Int) (h1 h2 : HF), fX11_alike F 0 a1 a2 h = some (r, h1) ∧ fX12_alike F 181 a1 a2 h1 = some (r, h2) ∧ Inv h2
def PS_least (F : Nat) (Inv : HF → Prop) : Prop := ∀ (h : HF) (a1 : Int) (a2 : Int), Inv h → rng a1 → rng a2 → ∃ (r : Int) (h1 h2 : HF), fX11_least F 0 a1 a2 h = some (r, h1) ∧ fX12_least F 181 a1 a2 h1 = some (r, h2) ∧ Inv h2
def PS_product (F : Nat) (Inv : HF → Prop) : Prop := ∀ (h : HF) (a1 : Int) (a2 : Int) (a3 : Int), Inv h → rng a1 → rng a2 → rng a3 → ∃ (r : Int) (h1 h2 : HF), fX11_product F 0 a1 a2 a3 h = some (r, h1) ∧ fX12_product F 181 a1 a2 a3 h1 = some (r, h2) ∧ Inv h2
def PS_function (F : Nat) (Inv : HF → Prop) : Prop := ∀ (h : HF) (a1 : Int) (a2 : Int), Inv h → rng a1 → rng a2 → ∃ (r : Int) (h1 h2 : HF), fX11_function F 0 a1 a2 h = some (r, h1) ∧ fX12_function F 181 a1 a2 h1 = some (r, h2) ∧ Inv h2
def PS_models (F : Nat) (Inv : HF → Prop) : Prop := ∀ (h : HF) (a1 : Int) (a2 : Int) (a3 : Int) (a4 : Int), Inv h → rng a1 → rng a2 → rng a3 → (a4 = 0 ∨ a4 = 1) → ∃ (r : Int) (h1 h2 : HF), fX11_models F 0 a1 a2 a3 a4 h = some (r, h1) ∧ fX12_models F 181 a1 a2 a3 a4 h1 = some (r, h2) ∧ Inv h2
def PS_model (F : Nat) (Inv : HF → Prop) : Prop := ∀ (h : HF) (a1 : Int) (a2 : Int) (a3 : Int) (a4 : Int) (a5 : Int), Inv h → rng a1 → rng a2 → rng a3 → rng a4 → rng a5 → ∃ (r : Int) (h1 h2 : HF), fX11_model F 0 a1 a2 a3 a4 a5 h = some (r, h1) ∧ fX12_model F 181 a1 a2 a3 a4 a5 h1 = some (r, h2) ∧ Inv h2
def PS_count (F : Nat) (Inv : HF → Prop) : Prop := ∀ (h : HF) (a1 : Int), Inv h → rng a1 → ∃ (r : Int) (h1 h2 : HF), fX11_count F 0 a1 h = some (r, h1) ∧ fX12_count F 181 a1 h1 = some (r, h2) ∧ Inv h2
