-- arrays
def zrd (h : HF) (a : Nat) (i : Int) (f : Int → RO) : RO := if 0 ≤ i ∧ i < (kl a : Int) then f (h a i.toNat) else none
def zwr (h : HF) (a : Nat) (i v : Int) (f : HF → RO) : RO := if 0 ≤ i ∧ i < (kl a : Int) then f (stp h a i.toNat v) else none
def zsa (a k : Nat) : Nat := if a = 5 then 117 + 4 * k else 13 + 4 * k
def zrs (a : Nat) (i : Int) (f : Nat → RO) : RO := if 0 ≤ i ∧ i < (kl a : Int) then f (zsa a i.toNat) else none
def zrl (h : HF) (a : Nat) (i : Int) (f : Nat → RO) : RO := if 0 ≤ i ∧ i < (kl a : Int) then (if 0 ≤ h a i.toNat then f (h a i.toNat).toNat else none) else none
def zpz (h : HF) (a k : Nat) (v : Int) (f : HF → RO) : RO := if v = 0 ∨ v = 1 then f (stp h a k v) else none
def zrz (r : Int) (h : HF) : RO := if r = 0 ∨ r = 1 then some (r, h) else none
theorem kt_zsa : ∀ a, a < 217 → kt a = 1 → ∀ k, k < 16 → k < kl a → kt (zsa a k) = 3 := by decide +kernel
theorem kl_1 : ∀ a, a < 217 → kt a = 1 → kl a ≤ 16 := by decide +kernel
theorem ifn {P : Prop} [Decidable P] {X : RO} {o : Int × HF} (hf : (if P then X else none) = some o) : P ∧ X = some o := by
  by_cases hp : P
  · rw [if_pos hp] at hf; exact ⟨hp, hf⟩
  · rw [if_neg hp] at hf; cases hf
section ZS
variable {p : Program} {l : Launch} {e : Env} {R : Room} {s : State} {m : MethodId} {args : Array Value} {below : List Frame} {meth : Method} {c : Code} {H : Heap} {locs : List Loc} {Q : State → Prop} {cc : ByteArray} {nL : Nat} {own : String} {ret : Option FieldType} {g : zG} {B : Nat} {h : HF} {pc : Nat} {ls : Array Slot} {st : List Value}
theorem z_iald (cx : Cx p s m args meth c cc nL own ret g B) (hp : Hp g B s h H locs) {a : Nat} {i : Int} (ha : kt a = 0) (ri : rng i) (hd : decode cc pc = .ok (.iaload, 1)) {f : Int → RO} {o : Int × HF} (hf : zrd h a i f = some o) (kk : ∀ v, rng v → f v = some o → W p l e R s m args below meth c H locs 0 0 Q (F0 m (pc + 1) ls (.int (ii v) :: st))) : W p l e R s m args below meth c H locs 0 0 Q (F0 m pc ls (.int (ii i) :: .ref (B + a) :: st)) := by
  obtain ⟨hb, hf⟩ := ifn hf
  have hr := hp.2.1 a i.toNat
  have hz : zsk a i.toNat = (0, 0) := by unfold zsk; rw [ha]
  rw [hz] at hr
  refine va_iald (D := g.1) cx.1 cx.2.1 cx.2.2.2.2.2.1 hp.1 a 0 (by rw [wld_at (kt_lt ha (by decide)), zce_arr ha]) rfl (ii_in ri hb) hd ?_
  rw [ii_cl ri]
  exact kk _ hr hf
theorem z_iast (cx : Cx p s m args meth c cc nL own ret g B) (hp : Hp g B s h H locs) {a : Nat} {i v : Int} (ha : kt a = 0) (ri : rng i) (rv : rng v) (hd : decode cc pc = .ok (.iastore, 1)) {f : HF → RO} {o : Int × HF} (hf : zwr h a i v f = some o) (kk : ∀ h1 H1 locs1, Hp g B s h1 H1 locs1 → f h1 = some o → W p l e R s m args below meth c H1 locs1 0 0 Q (F0 m (pc + 1) ls st)) : W p l e R s m args below meth c H locs 0 0 Q (F0 m pc ls (.int (ii v) :: .int (ii i) :: .ref (B + a) :: st)) := by
  obtain ⟨hb, hf⟩ := ifn hf
  have hz : zsk a i.toNat = (0, 0) := by unfold zsk; rw [ha]
  refine va_iast (D := g.1) cx.1 cx.2.1 cx.2.2.2.2.2.1 hp.1 (wld_D g B h) hp.2.2 a 0 (by rw [wld_at (kt_lt ha (by decide)), zce_arr ha]) rfl (ii_in ri hb) hd (fun H1 locs1 hP1 _ hS1 => ?_)
  rw [ii_cl ri, wld_set (h' := stp h a i.toNat v) (kt_lt ha (by decide)) (by
    rw [zce_arr ha, stp_on]
    refine congrArg (fun z => (Sum.inl (g.2.1, kl a, Sum.inl z) : va_E)) ?_
    funext j
    unfold upd
    by_cases hj : j = i.toNat
    · simp only [if_pos hj]
    · simp only [if_neg hj]) (fun c hc => stp_off hc)] at hP1
  exact kk _ H1 locs1 ⟨hP1, Gd_stp hp.2.1 (by rw [hz]; exact rv), hS1⟩ hf
theorem z_alen (cx : Cx p s m args meth c cc nL own ret g B) (hp : Hp g B s h H locs) {a : Nat} (ha : kt a = 0) (hd : decode cc pc = .ok (.arraylength, 1)) (kk : W p l e R s m args below meth c H locs 0 0 Q (F0 m (pc + 1) ls (.int (ii (kl a : Int)) :: st))) : W p l e R s m args below meth c H locs 0 0 Q (F0 m pc ls (.ref (B + a) :: st)) :=
  va_alen (D := g.1) (x := (kl a, .inl (fun k => ii (h a k)))) (v := ii (kl a : Int)) cx.1 cx.2.1 cx.2.2.2.2.2.1 hp.1 a 0 (by rw [wld_at (kt_lt ha (by decide)), zce_arr ha]) rfl (by rfl) hd kk
theorem kl_rng : ∀ a, a < 217 → kl a < 4000 := by decide +kernel
theorem rng_kl {a t : Nat} (h : kt a = t) (ht : t < 99) : rng (kl a : Int) := by
  have := kl_rng a (kt_lt h ht)
  constructor <;> omega
theorem z_aald1 (cx : Cx p s m args meth c cc nL own ret g B) (hp : Hp g B s h H locs) {a : Nat} {i : Int} (ha : kt a = 1) (ri : rng i) (hd : decode cc pc = .ok (.aaload, 1)) {f : Nat → RO} {o : Int × HF} (hf : zrs a i f = some o) (kk : ∀ v, kt v = 3 → f v = some o → W p l e R s m args below meth c H locs 0 0 Q (F0 m (pc + 1) ls (.ref (B + v) :: st))) : W p l e R s m args below meth c H locs 0 0 Q (F0 m pc ls (.int (ii i) :: .ref (B + a) :: st)) := by
  obtain ⟨hb, hf⟩ := ifn hf
  have hlt := kt_lt ha (by decide)
  have hr := hp.2.1 a i.toNat
  have hz : zsk a i.toNat = (1, zsa a i.toNat) := by unfold zsk; rw [ha]; rfl
  rw [hz] at hr
  have hr : h a i.toNat = (zsa a i.toNat : Int) := hr
  have hk : kt (zsa a i.toNat) = 3 := kt_zsa a hlt ha _ (by have := kl_1 a hlt ha; omega) (by omega)
  refine va_aldq (D := g.1) cx.1 cx.2.1 cx.2.2.2.2.2.1 hp.1 a 1 (by rw [wld_at hlt]; unfold zce; rw [ha]) rfl (ii_in ri hb) hd ?_
  rw [ii_cl ri]
  show W p l e R s m args below meth c H locs 0 0 Q (F0 m (pc + 1) ls (va_rf (if h a i.toNat < 0 then none else some (B + (h a i.toNat).toNat)) :: st))
  rw [hr, if_neg (by omega)]
  exact kk _ hk hf
theorem z_aald2 (cx : Cx p s m args meth c cc nL own ret g B) (hp : Hp g B s h H locs) {a : Nat} {i : Int} (ha : kt a = 2) (ri : rng i) (hd : decode cc pc = .ok (.aaload, 1)) {f : Nat → RO} {o : Int × HF} (hf : zrl h a i f = some o) (kk : ∀ v, kt v = 7 → f v = some o → W p l e R s m args below meth c H locs 0 0 Q (F0 m (pc + 1) ls (.ref (B + v) :: st))) : W p l e R s m args below meth c H locs 0 0 Q (F0 m pc ls (.int (ii i) :: .ref (B + a) :: st)) := by
  obtain ⟨hb, hf⟩ := ifn hf
  obtain ⟨h0, hf⟩ := ifn hf
  have hlt := kt_lt ha (by decide)
  have hr := hp.2.1 a i.toNat
  have hz : zsk a i.toNat = (2, 7) := by unfold zsk; rw [ha]
  rw [hz] at hr
  have hr : h a i.toNat = -1 ∨ ∃ v : Nat, h a i.toNat = (v : Int) ∧ kt v = 7 := hr
  obtain ⟨v, e1, e2⟩ := hr.resolve_left (by omega)
  refine va_aldq (D := g.1) cx.1 cx.2.1 cx.2.2.2.2.2.1 hp.1 a 2 (by rw [wld_at hlt]; unfold zce; rw [ha]) rfl (ii_in ri hb) hd ?_
  rw [ii_cl ri]
  show W p l e R s m args below meth c H locs 0 0 Q (F0 m (pc + 1) ls (va_rf (if h a i.toNat < 0 then none else some (B + (h a i.toNat).toNat)) :: st))
  rw [e1] at hf ⊢
  rw [if_neg (by omega)]
  exact kk v e2 hf
theorem z_aast2 (cx : Cx p s m args meth c cc nL own ret g B) (hp : Hp g B s h H locs) {a v : Nat} {i : Int} (ha : kt a = 2) (ri : rng i) (hv : kt v = 7) (hd : decode cc pc = .ok (.aastore, 1)) {f : HF → RO} {o : Int × HF} (hf : zwr h a i (v : Int) f = some o) (kk : ∀ h1 H1 locs1, Hp g B s h1 H1 locs1 → f h1 = some o → W p l e R s m args below meth c H1 locs1 0 0 Q (F0 m (pc + 1) ls st)) : W p l e R s m args below meth c H locs 0 0 Q (F0 m pc ls (.ref (B + v) :: .int (ii i) :: .ref (B + a) :: st)) := by
  obtain ⟨hb, hf⟩ := ifn hf
  have hlt := kt_lt ha (by decide)
  have hz : zsk a i.toNat = (2, 7) := by unfold zsk; rw [ha]
  refine va_astq (D := g.1) (r := (RX4, TX4, 10)) cx.1 cx.2.1 cx.2.2.2.2.2.1 hp.1 (wld_D g B h) hp.2.2 a 2 v 4 (by rw [wld_at hlt]; unfold zce; rw [ha]) rfl (by rw [wld_at (kt_lt hv (by decide)), zce_obj (ci := 4) hv]) rfl (ii_in ri hb) hd (fun H1 locs1 hP1 _ hS1 => ?_)
  rw [ii_cl ri, wld_set (h' := stp h a i.toNat (v : Int)) hlt (by
    unfold zce
    rw [ha, stp_on]
    show (Sum.inl (g.2.2.2, kl a, Sum.inr (Sum.inr (Sum.inr (Sum.inr _)))) : va_E) = _
    refine congrArg (fun z => (Sum.inl (g.2.2.2, kl a, Sum.inr (Sum.inr (Sum.inr (Sum.inr z)))) : va_E)) ?_
    funext j
    unfold va_up
    by_cases hj : j = i.toNat
    · simp only [if_pos hj]; rw [if_neg (by omega)]; rfl
    · simp only [if_neg hj]) (fun c hc => stp_off hc)] at hP1
  exact kk _ H1 locs1 ⟨hP1, Gd_stp hp.2.1 (by rw [hz]; exact Or.inr ⟨v, rfl, hv⟩), hS1⟩ hf
theorem z_putz (cx : Cx p s m args meth c cc nL own ret g B) (hp : Hp g B s h H locs) {C : String} {T : u_T} {N : Nat} (ty : Nat → FieldType) (hty : ∀ k, k < N → parseFieldDescriptor (T k).2.2.1 = some (ty k)) (hnm : ∀ a, a < N → ∀ b, b < N → a ≠ b → (T a).2.1 ≠ (T b).2.1) (ci k : Nat) {a idx : Nat} {v : Int} (hc : vwCl[ci]? = some (C, T, N)) (hin : ∀ w ∈ u_ws C T N, w ∈ AW) (hkN : k < N) (hkF : k < nF ci) (ha : kt a = ci + 3) (hq : zfk ci k a = (3, 0)) (hfin : (T k).2.2.2 = false) (hI : ty k = .boolean) (hw : Cond.fieldLink own idx (T k).1 (T k).2.1 (T k).2.2.1 ∈ AW) (hd : decode cc pc = .ok (.putfield idx, 3)) {f : HF → RO} {o : Int × HF} (hf : zpz h a k v f = some o) (kk : ∀ h1 H1 locs1, Hp g B s h1 H1 locs1 → f h1 = some o → W p l e R s m args below meth c H1 locs1 0 0 Q (F0 m (pc + 3) ls st)) : W p l e R s m args below meth c H locs 0 0 Q (F0 m pc ls (.int (ii v) :: .ref (B + a) :: st)) := by
  obtain ⟨hb, hf⟩ := ifn hf
  have hl := zf_len ha hkF
  refine va_put (D := g.1) (ci := ci) (v := .int (ii v)) (ty := .boolean) (T := T) cx.1 cx.2.1 cx.2.2.2.2.1 hin ty hty hnm cx.2.2.2.1 cx.2.2.2.2.2.1 hp.1 (wld_D g B h) hp.2.2 a (by rw [wld_at hl.2, zce_obj ha]) hc k hkN (cx.2.2.2.2.1 _ hw) (fun _ q => q) hfin (by rw [hty k hkN, hI]) (by rcases hb with q | q <;> rw [q] <;> rfl) (by rcases hb with q | q <;> rw [q] <;> rfl) (by rw [List.length_map, List.length_range]; exact hl.1) hd (fun H1 locs1 hP1 _ hS1 => ?_)
  rw [zput_w (v := v) ha hkF (by rw [hq]; rfl)] at hP1
  exact kk (stp h a k v) H1 locs1 ⟨hP1, Gd_stp hp.2.1 (by rw [zsk_obj ha, hq]; exact hb), hS1⟩ hf
-- the end of a method
theorem z_iret (cx : Cx p s m args meth c cc nL own (some .int) g B) (hp : Hp g B s h H locs) {r : Int} (rr : rng r) (hd : decode cc pc = .ok (.ireturn, 1)) {o : Int × HF} (hf : (some (r, h) : RO) = some o) : W p l e R s m args below meth c H locs 0 0 (MQ below (zQi g B o) args s 0 0 (aA B)) (F0 m pc ls [.int (ii r)]) := by
  cases hf
  have hlocks : meth.locks = false := cx.2.2.2.2.2.2.2.1
  exact W.iret cx.1 cx.2.1 cx.2.2.2.2.2.2.1 (fun t ht hW => ⟨⟨ii r, h, rfl, ⟨rfl, rr, rfl⟩, by rw [ht]; exact hp.1, hp.2.1, va_K.moved hW.alike cx.2.2.2.2.2.1⟩, hp.2.2.F ht⟩) hp.2.2.2.2 hd
theorem z_zret (cx : Cx p s m args meth c cc nL own (some .boolean) g B) (hp : Hp g B s h H locs) {r : Int} (hd : decode cc pc = .ok (.ireturn, 1)) {o : Int × HF} (hf : zrz r h = some o) : W p l e R s m args below meth c H locs 0 0 (MQ below (zQi g B o) args s 0 0 (aA B)) (F0 m pc ls [.int (ii r)]) := by
  obtain ⟨hb, hf⟩ := ifn hf
  cases hf
  have hlocks : meth.locks = false := cx.2.2.2.2.2.2.2.1
  exact W.zret (ty := .boolean) cx.1 cx.2.1 cx.2.2.2.2.2.2.1 (by rcases hb with q | q <;> rw [q] <;> rfl) (fun t ht hW => ⟨⟨ii r, h, rfl, ⟨rfl, by show rng r; rcases hb with q | q <;> rw [q] <;> decide, rfl⟩, by rw [ht]; exact hp.1, hp.2.1, va_K.moved hW.alike cx.2.2.2.2.2.1⟩, hp.2.2.F ht⟩) hp.2.2.2.2 hd
theorem z_vret (cx : Cx p s m args meth c cc nL own none g B) (hp : Hp g B s h H locs) (hd : decode cc pc = .ok (.return_, 1)) {o : Int × HF} (hf : (some (0, h) : RO) = some o) : W p l e R s m args below meth c H locs 0 0 (MQ below (zQv g B o) args s 0 0 (aA B)) (F0 m pc ls []) := by
  cases hf
  have hlocks : meth.locks = false := cx.2.2.2.2.2.2.2.1
  exact W.vret cx.1 cx.2.1 cx.2.2.2.2.2.2.1 (fun t ht hW => ⟨⟨h, rfl, rfl, by rw [ht]; exact hp.1, hp.2.1, va_K.moved hW.alike cx.2.2.2.2.2.1⟩, hp.2.2.F ht⟩) hp.2.2.2.2 hd
-- the entry of a method
theorem z_enterI {y : MethodName} {n : Nat} {As : List Value} {x : RO} {own : String} (hy : plainName y.cls = true) (ho : y.cls = own) (hl : (lg_sl As).length ≤ nL)
    (body : ∀ (p : Program) (e : Env) (s : State) (m : MethodId) (args : Array Value) (below : List Frame) (meth : Method) (c : Code) (ls : Array Slot) (o : Int × HF) (Q : State → Prop), Cx p s m args meth c cc nL own ret g B → Hp g B s h s.heap [] → lv_has ls nL (lv_args 0 As) → x = some o → Q = MQ below (zQi g B o) args s 0 0 (aA B) → W p l e (rmn n) s m args below meth c s.heap [] 0 0 Q (F0 m 0 ls [])) : CTi l g B y cc nL ret n As h x := by
  intro o hx
  refine Met.ofW (cc := cc) (maxL := nL) (ret := ret) hy rfl ?_
  intro p e s m args below meth c s₁ B' hml hv
  obtain ⟨rfl, ⟨hP, hG, hK⟩, hN, hSt⟩ := hv
  have hts := atoms_spec (ws := Cond.code y cc nL ret :: AW) B'.pre
  have hown : s.vm.findClass own = some m.cls := by rw [← ho]; exact findClass_of_methodNamed B'.named
  have h1 := lv_entry As (n := nL) hl
  rw [lg_entry_eq]
  exact body p e s m _ below meth c _ o _ ⟨B'.exec, B'.bytes, hml, hown, fun w hw => hts w (List.mem_cons_of_mem _ hw), hK, B'.returns, B'.notSynchronized, hN, hSt⟩ ⟨hP, hG, va_S.rf⟩ h1 hx rfl
theorem z_enterV {y : MethodName} {n : Nat} {As : List Value} {x : RO} {own : String} (hy : plainName y.cls = true) (ho : y.cls = own) (hl : (lg_sl As).length ≤ nL)
    (body : ∀ (p : Program) (e : Env) (s : State) (m : MethodId) (args : Array Value) (below : List Frame) (meth : Method) (c : Code) (ls : Array Slot) (o : Int × HF) (Q : State → Prop), Cx p s m args meth c cc nL own none g B → Hp g B s h s.heap [] → lv_has ls nL (lv_args 0 As) → x = some o → Q = MQ below (zQv g B o) args s 0 0 (aA B) → W p l e (rmn n) s m args below meth c s.heap [] 0 0 Q (F0 m 0 ls [])) : CTv l g B y cc nL n As h x := by
  intro o hx
  refine Met.ofW (cc := cc) (maxL := nL) (ret := none) hy rfl ?_
  intro p e s m args below meth c s₁ B' hml hv
  obtain ⟨rfl, ⟨hP, hG, hK⟩, hN, hSt⟩ := hv
  have hts := atoms_spec (ws := Cond.code y cc nL none :: AW) B'.pre
  have hown : s.vm.findClass own = some m.cls := by rw [← ho]; exact findClass_of_methodNamed B'.named
  have h1 := lv_entry As (n := nL) hl
  rw [lg_entry_eq]
  exact body p e s m _ below meth c _ o _ ⟨B'.exec, B'.bytes, hml, hown, fun w hw => hts w (List.mem_cons_of_mem _ hw), hK, B'.returns, B'.notSynchronized, hN, hSt⟩ ⟨hP, hG, va_S.rf⟩ h1 hx rfl
theorem z_let {v : Int} (rv : rng v) {f : Int → RO} {o : Int × HF} (hf : zlet v f = some o) (kk : ∀ x, rng x → f x = some o → W p l e R s m args below meth c H locs 0 0 Q (F0 m pc ls (.int (ii x) :: st))) : W p l e R s m args below meth c H locs 0 0 Q (F0 m pc ls (.int (ii v) :: st)) := kk v rv hf
theorem z_jn {α : Type} {a : α} {f : α → RO} {o : Int × HF} {G : Prop} (hf : zjn a f = some o) (P : α → Prop) (ha : P a) (kk : ∀ j, P j → f j = some o → G) : G := kk a ha hf
theorem z_iinc (cx : Cx p s m args meth c cc nL own ret g B) {i k : Nat} {n a : Int} {lv : List (Nat × Value)} (lv' : Int → List (Nat × Value)) (hd : decode cc pc = .ok (.iinc i n, 3)) (hl : lv_has ls nL lv) (hk : lv[k]? = some (i, .int (ii a))) (hn : i < nL) (he : ∀ x, (i, Value.int (ii x)) :: lv.filter (fun q => !(q.1 == i) && !(q.1 + 1 == i && q.2.category == 2)) = lv' x) {f : Int → RO} {o : Int × HF} (hf : zlet (wr (a + n)) f = some o) (kk : ∀ x, rng x → f x = some o → ∀ ls', lv_has ls' nL (lv' x) → W p l e R s m args below meth c H locs 0 0 Q (F0 m (pc + 3) ls' st)) : W p l e R s m args below meth c H locs 0 0 Q (F0 m pc ls st) :=
  lv_iinc (v := ii (wr (a + n))) cx.1 cx.2.1 hd hl hk (ii_add a n) hn (he _) (fun ls' h' => kk _ (rng_wr _) hf ls' h')
-- calls
theorem zblind {As : List Value} : FrameBlind (va_Pc As (Rq g B h)) := fun a U gf mk q => ⟨q.1, ⟨q.2.1.1, q.2.1.2.1, va_K.moved (u := U) (U := U.calling gf mk a) (Vm.Alike.refl U.vm) q.2.1.2.2⟩, fun w hw => va_Nw.same rfl (rfl : U.vm = (U.calling gf mk a).vm) (q.2.2.1 w hw), by obtain ⟨t, h1, h2⟩ := q.2.2.2; exact ⟨t, h1.moved (Vm.Alike.refl U.vm), h2.moved (Vm.Alike.refl U.vm)⟩⟩
theorem zpre {As : List Value} (cx : Cx p s m args meth c cc nL own ret g B) (hp : Hp g B s h H locs) : ∀ U : State, U.heap = H → s.WarmedH U.vm → va_Pc As (Rq g B h) As.toArray U := fun U hU hW => ⟨rfl, ⟨by show va_P g.1 vwCl (wld g B h) U.heap; rw [hU]; exact hp.1, hp.2.1, va_K.moved hW.alike cx.2.2.2.2.2.1⟩, fun w hw => va_Nw.warmM hW (cx.2.2.2.2.2.2.2.2.1 w hw), by
  obtain ⟨t, h1, h2⟩ := cx.2.2.2.2.2.2.2.2.2
  exact ⟨t, by rw [hU]; exact (h1.kept hp.2.2.2.1).moved hW.alike, by rw [hU]; exact (h2.kept hp.2.2.2.1).moved hW.alike⟩⟩
variable {y : MethodName} {cy : ByteArray} {ny : Nat} {ry : Option FieldType} {n k np idx b : Nat} {C : String} {T : u_T} {N : Nat} {As rest : List Value} {x : RO} {o : Int × HF} {f : Int → HF → RO}
theorem zroom (hk : k < n) (hn : ny ≤ 21) : (rmn k).frames + 1 ≤ (rmn n).frames ∧ 8 + (ny + 11) + (rmn k).locals ≤ (rmn n).locals := ⟨hk, by show 8 + (ny + 11) + 40 * k ≤ 40 * n; omega⟩
theorem zrunV {Qc : Array Value → State → Outcome → State → Prop} (cx : Cx p s m args meth c cc nL own ret g B) (hp : Hp g B s h H locs) (hM : Met l y (Cond.code y cy ny ry :: AW) (rmn k) (va_Pc (.ref (B + b) :: As) (Rq g B h)) Qc 0 0 (aA B)) (ci : Nat) (hb : kt b = ci + 3) (h9 : ci < 90) (hc : vwCl[ci]? = some (C, T, N)) (hw : VW C y cy ny ry np) (hl : Cond.methodLink own idx y ∈ AW) (hk : k < n) (hnp : As.length = np) (hls : ls.size = nL) (hst : st = As.reverse ++ .ref (B + b) :: rest) (hr : (rest.map fun v => v.category).sum ≤ 8) (hd : decode cc pc = .ok (.invokevirtual idx, 3)) :
    va_Run p l e (rmn n) s m args below meth c H locs 0 0 0 0 (F0 m pc ls st) rest (Qc (Value.ref (B + b) :: As).toArray) (aA B) := by
  have hts := cx.2.2.2.2.1
  refine va_runV (Ts := AW) (C := C) (bytes := cy) (maxL := ny) (ret := ry) (n := np) ⟨cx.1, cx.2.1, cx.2.2.1, cx.2.2.2.1, hts⟩ hM ⟨callB_of np hts (aw_cons hw.2.2.2.1) rfl rfl rfl (hts _ hw.2.2.1) (hts _ hl) hw.2.2.2.2.1 (zroom hk hw.2.2.2.2.2), hts _ hw.1, hts _ hw.2.1⟩ ⟨zblind, va_recv cx.2.2.2.2.2.1 hp.1 hc (by rw [wld_at (kt_lt hb (by omega)), zce_obj hb]), zpre cx hp⟩ rfl hnp hls hst (lv_room hr) hd ⟨Nat.le_refl 0, Nat.le_refl 0⟩
theorem zrunS {Qc : Array Value → State → Outcome → State → Prop} (cx : Cx p s m args meth c cc nL own ret g B) (hp : Hp g B s h H locs) (hM : Met l y (Cond.code y cy ny ry :: AW) (rmn k) (va_Pc As (Rq g B h)) Qc 0 0 (aA B)) (hw : SW y cy ny ry np) (hl : Cond.methodLink own idx y ∈ AW) (hk : k < n) (hnp : As.length = np) (hls : ls.size = nL) (hst : st = As.reverse ++ rest) (hr : (rest.map fun v => v.category).sum ≤ 8) (hd : decode cc pc = .ok (.invokestatic idx, 3)) :
    va_Run p l e (rmn n) s m args below meth c H locs 0 0 0 0 (F0 m pc ls st) rest (Qc As.toArray) (aA B) := by
  have hts := cx.2.2.2.2.1
  refine va_runS (Ts := AW) (bytes := cy) (maxL := ny) (ret := ry) (n := np) ⟨cx.1, cx.2.1, cx.2.2.1, cx.2.2.2.1, hts⟩ hM ⟨callB_of np hts (aw_cons hw.2.2.1) rfl rfl rfl (hts _ hw.2.1) (hts _ hl) hw.2.2.2.1 (zroom hk hw.2.2.2.2), hts _ hw.1⟩ ⟨zblind, zpre cx hp⟩ rfl hnp hls hst (lv_room hr) hd ⟨Nat.le_refl 0, Nat.le_refl 0⟩
theorem zrunSN {Qc : Array Value → State → Outcome → State → Prop} (cx : Cx p s m args meth c cc nL own ret g B) (hp : Hp g B s h H locs) (hM : Met l y (Cond.code y cy ny ry :: AW) (rmn k) (va_Pc As (Rq g B h)) Qc 0 0 (aA B)) (hw : SW y cy ny ry np) (hl : (own, idx, y) ∈ zNest) (hk : k < n) (hnp : As.length = np) (hls : ls.size = nL) (hst : st = As.reverse ++ rest) (hr : (rest.map fun v => v.category).sum ≤ 8) (hd : decode cc pc = .ok (.invokestatic idx, 3)) :
    va_Run p l e (rmn n) s m args below meth c H locs 0 0 0 0 (F0 m pc ls st) rest (Qc As.toArray) (aA B) := by
  have hts := cx.2.2.2.2.1
  have h1 : va_CN (rmn n) s args own idx y RX11 cy ny ry (Cond.code y cy ny ry :: AW) (rmn k) 0 0 np := by
    refine ⟨⟨rfl, rfl, (zroom hk hw.2.2.2.2).1, (zroom hk hw.2.2.2.2).2, pay_in hts (aw_cons hw.2.2.1), List.mem_cons_self⟩, hts _ hw.2.2.1, hts _ hw.2.1, ⟨hw.2.2.2.1.1, hw.2.2.2.1.2.1⟩, fun sig q => ?_, va_Nw.use rfl (cx.2.2.2.2.2.2.2.2.1 _ hl)⟩
    have h3 := hw.2.2.2.1.2.2
    rw [q] at h3
    exact (Option.some.inj h3).symm
  exact va_runSN (Ts := AW) (bytes := cy) (maxL := ny) (ret := ry) (n := np) ⟨cx.1, cx.2.1, cx.2.2.1, cx.2.2.2.1, hts⟩ hM ⟨h1, hts _ hw.1, trivial⟩ ⟨zblind, zpre cx hp⟩ rfl hnp hls hst (lv_room hr) hd ⟨Nat.le_refl 0, Nat.le_refl 0⟩
theorem z_ci {a : Array Value} (cx : Cx p s m args meth c cc nL own ret g B) (hp : Hp g B s h H locs) (hrun : ∀ o', x = some o' → va_Run p l e R s m args below meth c H locs 0 0 0 0 (F0 m pc ls st) rest (zQi g B o' a) (aA B)) (hf : zbd x f = some o)
    (kk : ∀ (r : Int) (h1 : HF) (H1 : Heap) (locs1 : List Loc), rng r → Hp g B s h1 H1 locs1 → f r h1 = some o → W p l e R s m args below meth c H1 locs1 0 0 Q (F0 m (pc + 3) ls (.int (ii r) :: rest))) : W p l e R s m args below meth c H locs 0 0 Q (F0 m pc ls st) := by
  obtain ⟨r0, h0, hx, hf⟩ := zbd_inv hf
  refine va_calli (hrun _ hx) hp.2.2 (fun q _ h => h) (fun q h => h) (fun r u t H1 locs1 ht hvm hw hB hz1 hk1 hS => ?_)
  obtain ⟨rfl, hrg, rfl⟩ := hw
  obtain ⟨hP1, hG1, -⟩ := hB
  rw [ht] at hP1
  exact kk r0 _ H1 locs1 hrg ⟨hP1, hG1, hS⟩ hf
theorem z_cv {a : Array Value} (cx : Cx p s m args meth c cc nL own ret g B) (hp : Hp g B s h H locs) (hrun : ∀ o', x = some o' → va_Run p l e R s m args below meth c H locs 0 0 0 0 (F0 m pc ls st) rest (zQv g B o' a) (aA B)) (hf : zbd x f = some o)
    (kk : ∀ (r : Int) (h1 : HF) (H1 : Heap) (locs1 : List Loc), Hp g B s h1 H1 locs1 → f r h1 = some o → W p l e R s m args below meth c H1 locs1 0 0 Q (F0 m (pc + 3) ls rest)) : W p l e R s m args below meth c H locs 0 0 Q (F0 m pc ls st) := by
  obtain ⟨r0, h0, hx, hf⟩ := zbd_inv hf
  refine va_callv (hrun _ hx) hp.2.2 (fun q _ h => h) (fun q h => h) (fun u t H1 locs1 ht hvm hw hB hz1 hk1 hS => ?_)
  obtain rfl : u = h0 := hw
  obtain ⟨hP1, hG1, -⟩ := hB
  rw [ht] at hP1
  exact kk r0 u H1 locs1 ⟨hP1, hG1, hS⟩ hf
end ZS
theorem mn_X0_102 : (RX0, 102, yX11_hasBit) ∈ zNest := List.mem_of_getElem? (i := 0) rfl
theorem mn_X2_44 : (RX2, 44, yX11_encode) ∈ zNest := List.mem_of_getElem? (i := 1) rfl
theorem mn_X5_37 : (RX5, 37, yX11_hasBit) ∈ zNest := List.mem_of_getElem? (i := 2) rfl
theorem mn_X7_108 : (RX7, 108, yX11_encode) ∈ zNest := List.mem_of_getElem? (i := 3) rfl
theorem mn_X9_59 : (RX9, 59, yX11_encode) ∈ zNest := List.mem_of_getElem? (i := 4) rfl
-- System.arraycopy of ints
def cpy (h : HF) (a sp b dp n : Nat) : HF := fun c => if c = b then (fun k => if dp ≤ k ∧ k < dp + n then h a (sp + (k - dp)) else h b k) else h c
def zcp (h : HF) (a : Nat) (sp : Int) (b : Nat) (dp n : Int) (f : HF → RO) : RO := if 0 ≤ sp ∧ 0 ≤ dp ∧ 0 ≤ n ∧ sp + n ≤ (kl a : Int) ∧ dp + n ≤ (kl b : Int) then f (cpy h a sp.toNat b dp.toNat n.toNat) else none
theorem Gd_cpy {h : HF} {a sp b dp n : Nat} (hg : Gd h) (ha : kt a = 0) (hb : kt b = 0) : Gd (cpy h a sp b dp n) := by
  intro c k
  unfold cpy
  by_cases hc : c = b
  · subst hc
    rw [if_pos rfl]
    have hz : zsk c k = (0, 0) := by unfold zsk; rw [hb]
    rw [hz]
    by_cases hk : dp ≤ k ∧ k < dp + n
    · rw [if_pos hk]
      have h1 := hg a (sp + (k - dp))
      have hz1 : zsk a (sp + (k - dp)) = (0, 0) := by unfold zsk; rw [ha]
      rw [hz1] at h1
      exact h1
    · rw [if_neg hk]
      have h1 := hg c k
      rw [hz] at h1
      exact h1
  · rw [if_neg hc]; exact hg c k
section ZA
variable {p : Program} {l : Launch} {e : Env} {R : Room} {s : State} {m : MethodId} {args : Array Value} {below : List Frame} {meth : Method} {c : Code} {H : Heap} {locs : List Loc} {Q : State → Prop} {cc : ByteArray} {nL : Nat} {own : String} {ret : Option FieldType} {g : zG} {B : Nat} {h : HF} {pc : Nat} {ls : Array Slot} {st : List Value}
theorem z_acopy (cx : Cx p s m args meth c cc nL own ret g B) (hp : Hp g B s h H locs) {n a b idx : Nat} {sp dp k : Int} (ha : kt a = 0) (rs : rng sp) (hb : kt b = 0) (rd : rng dp) (rk : rng k) (hls : ls.size = nL) (hr : (st.map fun v => v.category).sum ≤ 8) (hw : Cond.methodLink own idx arraycopyName ∈ AW ∧ Cond.native arraycopyName ∈ AW ∧ Cond.static arraycopyName ∈ AW ∧ Cond.initialized "java/lang/System" ∈ AW) (hn : 0 < n) (hd : decode cc pc = .ok (.invokestatic idx, 3)) {f : HF → RO} {o : Int × HF} (hf : zcp h a sp b dp k f = some o) (kk : ∀ h1 H1 locs1, Hp g B s h1 H1 locs1 → f h1 = some o → W p l e (rmn n) s m args below meth c H1 locs1 0 0 Q (F0 m (pc + 3) ls st)) : W p l e (rmn n) s m args below meth c H locs 0 0 Q (F0 m pc ls (.int (ii k) :: .int (ii dp) :: .ref (B + b) :: .int (ii sp) :: .ref (B + a) :: st)) := by
  obtain ⟨⟨h1, h2, h3, h4, h5⟩, hf⟩ := ifn hf
  have hts := cx.2.2.2.2.1
  have nn : ∀ {z : Int}, rng z → 0 ≤ z → ¬ ii z < 0 := fun rz hz q => by
    have := (ii_lt rz rng_0).mp q
    omega
  refine va_copyi (D := g.1) (ty := .int) cx.1 cx.2.1 (cx.2.2.1.trans hls.symm) cx.2.2.2.1 (hts _ hw.1) (hts _ hw.2.1) (hts _ hw.2.2.1) (hts _ hw.2.2.2) cx.2.2.2.2.2.1 hp.1 (wld_D g B h) hp.2.2 a b 0 0 (by rw [wld_at (kt_lt ha (by decide)), zce_arr ha]) (by rw [wld_at (kt_lt hb (by decide)), zce_arr hb]) rfl rfl rfl (nn rs h1) (nn rd h2) (nn rk h3) (by rw [ii_cl rs, ii_cl rk]; omega) (by rw [ii_cl rd, ii_cl rk]; omega) (fun _ _ => rfl) hn (by
    have hnf : nativeFrameWords "java/lang/System" "arraycopy" 5 ≤ 21 := by decide +kernel
    show (st.map fun v => v.category).sum + _ ≤ 40 * n
    omega) hd (fun H1 locs1 hP1 _ hS1 => ?_)
  rw [ii_cl rs, ii_cl rd, ii_cl rk, wld_set (h' := cpy h a sp.toNat b dp.toNat k.toNat) (kt_lt hb (by decide)) (by
    rw [zce_arr hb]
    refine congrArg (fun z => (Sum.inl (g.2.1, kl b, Sum.inl z) : va_E)) ?_
    funext j
    unfold va_cpy cpy
    rw [if_pos rfl]
    by_cases hj : dp.toNat ≤ j ∧ j < dp.toNat + k.toNat
    · rw [if_pos hj, if_pos hj]
    · rw [if_neg hj, if_neg hj]) (fun c hc => by unfold cpy; rw [if_neg hc])] at hP1
  exact kk _ H1 locs1 ⟨hP1, Gd_cpy hp.2.1 ha hb, hS1⟩ hf
end ZA
theorem ma_X0_51 : Cond.methodLink RX0 51 arraycopyName ∈ AW ∧ Cond.native arraycopyName ∈ AW ∧ Cond.static arraycopyName ∈ AW ∧ Cond.initialized "java/lang/System" ∈ AW := ⟨(aw_m3 36 (by decide +kernel) rfl), (aw_m3 38 (by decide +kernel) rfl), (aw_m3 37 (by decide +kernel) rfl), (aw_m1 16 (by decide +kernel) rfl)⟩
theorem ma_X6_44 : Cond.methodLink RX6 44 arraycopyName ∈ AW ∧ Cond.native arraycopyName ∈ AW ∧ Cond.static arraycopyName ∈ AW ∧ Cond.initialized "java/lang/System" ∈ AW := ⟨(aw_m5 47 (by decide +kernel) rfl), (aw_m3 38 (by decide +kernel) rfl), (aw_m3 37 (by decide +kernel) rfl), (aw_m1 16 (by decide +kernel) rfl)⟩
theorem ma_X9_67 : Cond.methodLink RX9 67 arraycopyName ∈ AW ∧ Cond.native arraycopyName ∈ AW ∧ Cond.static arraycopyName ∈ AW ∧ Cond.initialized "java/lang/System" ∈ AW := ⟨(aw_m5 89 (by decide +kernel) rfl), (aw_m3 38 (by decide +kernel) rfl), (aw_m3 37 (by decide +kernel) rfl), (aw_m1 16 (by decide +kernel) rfl)⟩
-- longs
abbrev ll (x : Int) : Int64 := Int64.ofInt x
abbrev rng64 (x : Int) : Prop := -9223372036854775808 ≤ x ∧ x < 9223372036854775808
def wl (x : Int) : Int := x.bmod 18446744073709551616
def zcmp (a b : Int) : Int := if b < a then 1 else if a = b then 0 else -1
theorem ll_ti {x : Int} (h : rng64 x) : (ll x).toInt = x := Int64.toInt_ofInt_of_le h.1 h.2
theorem rng_wl (x : Int) : rng64 (wl x) := by unfold wl rng64; constructor <;> (have := Int.bmod_lt (x := x) (m := 18446744073709551616) (by decide); have := Int.le_bmod (x := x) (m := 18446744073709551616) (by decide); omega)
theorem rng_cmp (a b : Int) : rng (zcmp a b) := by
  unfold zcmp
  by_cases h1 : b < a
  · rw [if_pos h1]; decide
  · rw [if_neg h1]
    by_cases h2 : a = b
    · rw [if_pos h2]; decide
    · rw [if_neg h2]; decide
theorem ll_mul (a b : Int) : ll a * ll b = ll (wl (a * b)) := by
  apply Int64.toInt_inj.mp
  rw [ll_ti (rng_wl _), Int64.toInt_mul, Int64.toInt_ofInt, Int64.toInt_ofInt]
  show _ = (a * b).bmod 18446744073709551616
  simp [Int64.size]
theorem ll_cmp {a b : Int} (ra : rng64 a) (rb : rng64 b) : lg_cmp (ll a) (ll b) = ii (zcmp a b) := by
  have e1 : (ll a > ll b) ↔ b < a := by rw [gt_iff_lt, Int64.lt_iff_toInt_lt, ll_ti ra, ll_ti rb]
  have e2 : ll a = ll b ↔ a = b := ⟨fun h => by rw [← ll_ti ra, h, ll_ti rb], fun h => by rw [h]⟩
  unfold lg_cmp zcmp
  by_cases h1 : b < a
  · rw [if_pos (e1.mpr h1), if_pos h1]; rfl
  · rw [if_neg (fun q => h1 (e1.mp q)), if_neg h1]
    by_cases h2 : a = b
    · rw [if_pos (e2.mpr h2), if_pos h2]; rfl
    · rw [if_neg (fun q => h2 (e2.mp q)), if_neg h2]; rfl
theorem ll_of {a : Int} (ra : rng a) : (ii a).toInt64 = ll a := by
  apply Int64.toInt_inj.mp
  rw [Int32.toInt_toInt64, ii_ti ra, ll_ti ⟨by have := ra.1; omega, by have := ra.2; omega⟩]
section ZL
variable {p : Program} {l : Launch} {e : Env} {R : Room} {s : State} {m : MethodId} {args : Array Value} {below : List Frame} {meth : Method} {c : Code} {H : Heap} {locs : List Loc} {Q : State → Prop} {cc : ByteArray} {nL : Nat} {own : String} {ret : Option FieldType} {g : zG} {B : Nat} {h : HF} {pc : Nat} {ls : Array Slot} {st : List Value}
theorem z_lcmp (cx : Cx p s m args meth c cc nL own ret g B) {a b : Int} (ra : rng64 a) (rb : rng64 b) (hd : decode cc pc = .ok (.lcmp, 1)) (k : W p l e R s m args below meth c H locs 0 0 Q (F0 m (pc + 1) ls (.int (ii (zcmp a b)) :: st))) : W p l e R s m args below meth c H locs 0 0 Q (F0 m pc ls (.long (ll b) :: .long (ll a) :: st)) :=
  W.lcmp cx.1 cx.2.1 hd (by rw [ll_cmp ra rb]; exact k)
theorem z_lmul (cx : Cx p s m args meth c cc nL own ret g B) {a b : Int} (hd : decode cc pc = .ok (.lmul, 1)) (k : W p l e R s m args below meth c H locs 0 0 Q (F0 m (pc + 1) ls (.long (ll (wl (a * b))) :: st))) : W p l e R s m args below meth c H locs 0 0 Q (F0 m pc ls (.long (ll b) :: .long (ll a) :: st)) :=
  lv_lmul cx.1 cx.2.1 hd (by rw [ll_mul]; exact k)
theorem z_i2l (cx : Cx p s m args meth c cc nL own ret g B) {a : Int} (ra : rng a) (hd : decode cc pc = .ok (.i2l, 1)) (k : W p l e R s m args below meth c H locs 0 0 Q (F0 m (pc + 1) ls (.long (ll a) :: st))) : W p l e R s m args below meth c H locs 0 0 Q (F0 m pc ls (.int (ii a) :: st)) :=
  lv_i2l cx.1 cx.2.1 hd (ll_of ra) k
theorem rng_l {a : Int} (ra : rng a) : rng64 a := ⟨by have := ra.1; omega, by have := ra.2; omega⟩
theorem z_letl {v : Int} (rv : rng64 v) {f : Int → RO} {o : Int × HF} (hf : zlet v f = some o) (kk : ∀ x, rng64 x → f x = some o → W p l e R s m args below meth c H locs 0 0 Q (F0 m pc ls (.long (ll x) :: st))) : W p l e R s m args below meth c H locs 0 0 Q (F0 m pc ls (.long (ll v) :: st)) := kk v rv hf
/-- getstatic of the row of factorials, and what is read from it -/
def zrn (i : Int) (f : Int → RO) : RO := if 0 ≤ i ∧ i < 8 then f (zNum i.toNat) else none
theorem rng_num : ∀ k, k < 8 → rng (zNum k) := by decide +kernel
theorem z_getnum (cx : Cx p s m args meth c cc nL own ret g B) (hp : Hp g B s h H locs) {idx : Nat} (hw : Cond.fieldLink own idx RX8 "NUMBERINGS" "[I" ∈ AW) (hd : decode cc pc = .ok (.getstatic idx, 3)) (kk : ∀ t, va_T .int t 8 (fun k => .int (ii (zNum k))) (aA B) s s.heap → W p l e R s m args below meth c H locs 0 0 Q (F0 m (pc + 3) ls (.ref t :: st))) : W p l e R s m args below meth c H locs 0 0 Q (F0 m pc ls st) := by
  obtain ⟨t, h1, h2⟩ := cx.2.2.2.2.2.2.2.2.2
  exact va_gets cx.1 cx.2.1 h1 hp.2.2 cx.2.2.2.1 (cx.2.2.2.2.1 _ hw) (fun _ q => q) hd (kk t h2)
theorem z_aldnum (cx : Cx p s m args meth c cc nL own ret g B) (hp : Hp g B s h H locs) {t : Nat} (hT : va_T .int t 8 (fun k => .int (ii (zNum k))) (aA B) s s.heap) {i : Int} (ri : rng i) (hd : decode cc pc = .ok (.iaload, 1)) {f : Int → RO} {o : Int × HF} (hf : zrn i f = some o) (kk : ∀ v, rng v → f v = some o → W p l e R s m args below meth c H locs 0 0 Q (F0 m (pc + 1) ls (.int (ii v) :: st))) : W p l e R s m args below meth c H locs 0 0 Q (F0 m pc ls (.int (ii i) :: .ref t :: st)) := by
  obtain ⟨hb, hf⟩ := ifn hf
  exact va_ti cx.1 cx.2.1 hT hp.2.2 (ii_in ri hb) (v := .int (ii (zNum i.toNat))) (by rw [ii_cl ri]) hd (kk _ (rng_num _ (by omega)) hf)
end ZL
-- Math.max, Math.min
def zmax (a b : Int) : Int := if a < b then b else a
def zmin (a b : Int) : Int := if b < a then b else a
theorem rng_max {a b : Int} (ra : rng a) (rb : rng b) : rng (zmax a b) := by unfold zmax; by_cases q : a < b <;> simp only [q, if_true, if_false] <;> assumption
theorem rng_min {a b : Int} (ra : rng a) (rb : rng b) : rng (zmin a b) := by unfold zmin; by_cases q : b < a <;> simp only [q, if_true, if_false] <;> assumption
section ZM
variable {p : Program} {l : Launch} {e : Env} {R : Room} {s : State} {m : MethodId} {args : Array Value} {below : List Frame} {meth : Method} {c : Code} {H : Heap} {locs : List Loc} {Q : State → Prop} {cc : ByteArray} {nL : Nat} {own : String} {ret : Option FieldType} {g : zG} {B : Nat} {h : HF} {pc : Nat} {ls : Array Slot} {st : List Value}
theorem z_mmax (cx : Cx p s m args meth c cc nL own ret g B) {n idx : Nat} {a b : Int} (ra : rng a) (rb : rng b) (hls : ls.size = nL) (hr : (st.map fun v => v.category).sum ≤ 8) (hw : Cond.methodLink own idx Lib.Math.max.name ∈ AW ∧ Cond.static Lib.Math.max.name ∈ AW ∧ Cond.initialized "java/lang/Math" ∈ AW ∧ Cond.code Lib.Math.max.name Lib.Math.max.code 2 (some .int) ∈ AW) (hn : 0 < n) (hd : decode cc pc = .ok (.invokestatic idx, 3)) (kk : W p l e (rmn n) s m args below meth c H locs 0 0 Q (F0 m (pc + 3) ls (.int (ii (zmax a b)) :: st))) : W p l e (rmn n) s m args below meth c H locs 0 0 Q (F0 m pc ls (.int (ii b) :: .int (ii a) :: st)) := by
  have hts := cx.2.2.2.2.1
  refine va_mmax (R := rmn n) cx.1 cx.2.1 (cx.2.2.1.trans hls.symm) cx.2.2.2.1 (hts _ hw.1) (hts _ hw.2.1) (hts _ hw.2.2.1) (hts _ hw.2.2.2) hn (by show _ + 13 ≤ 40 * n; omega) (Nat.zero_le _) (Nat.zero_le _) hd ?_
  unfold zmax at kk
  by_cases q : a < b
  · rw [if_pos ((ii_lt ra rb).mpr q)]; rw [if_pos q] at kk; exact kk
  · rw [if_neg (fun z => q ((ii_lt ra rb).mp z))]; rw [if_neg q] at kk; exact kk
theorem z_mmin (cx : Cx p s m args meth c cc nL own ret g B) {n idx : Nat} {a b : Int} (ra : rng a) (rb : rng b) (hls : ls.size = nL) (hr : (st.map fun v => v.category).sum ≤ 8) (hw : Cond.methodLink own idx Lib.Math.min.name ∈ AW ∧ Cond.static Lib.Math.min.name ∈ AW ∧ Cond.initialized "java/lang/Math" ∈ AW ∧ Cond.code Lib.Math.min.name Lib.Math.min.code 2 (some .int) ∈ AW) (hn : 0 < n) (hd : decode cc pc = .ok (.invokestatic idx, 3)) (kk : W p l e (rmn n) s m args below meth c H locs 0 0 Q (F0 m (pc + 3) ls (.int (ii (zmin a b)) :: st))) : W p l e (rmn n) s m args below meth c H locs 0 0 Q (F0 m pc ls (.int (ii b) :: .int (ii a) :: st)) := by
  have hts := cx.2.2.2.2.1
  refine va_mmin (R := rmn n) cx.1 cx.2.1 (cx.2.2.1.trans hls.symm) cx.2.2.2.1 (hts _ hw.1) (hts _ hw.2.1) (hts _ hw.2.2.1) (hts _ hw.2.2.2) hn (by show _ + 13 ≤ 40 * n; omega) (Nat.zero_le _) (Nat.zero_le _) hd ?_
  unfold zmin at kk
  by_cases q : b < a
  · rw [if_pos ((ii_lt rb ra).mpr q)]; rw [if_pos q] at kk; exact kk
  · rw [if_neg (fun z => q ((ii_lt rb ra).mp z))]; rw [if_neg q] at kk; exact kk
end ZM
theorem mx_X1_9 : Cond.methodLink RX1 9 Lib.Math.max.name ∈ AW ∧ Cond.static Lib.Math.max.name ∈ AW ∧ Cond.initialized "java/lang/Math" ∈ AW ∧ Cond.code Lib.Math.max.name Lib.Math.max.code 2 (some .int) ∈ AW := ⟨(aw_m1 32 (by decide +kernel) rfl), (aw_m1 33 (by decide +kernel) rfl), (aw_m1 3 (by decide +kernel) rfl), (aw_m1 34 (by decide +kernel) rfl)⟩
theorem mx_X2_73 : Cond.methodLink RX2 73 Lib.Math.min.name ∈ AW ∧ Cond.static Lib.Math.min.name ∈ AW ∧ Cond.initialized "java/lang/Math" ∈ AW ∧ Cond.code Lib.Math.min.name Lib.Math.min.code 2 (some .int) ∈ AW := ⟨(aw_m4 175 (by decide +kernel) rfl), (aw_m4 176 (by decide +kernel) rfl), (aw_m1 3 (by decide +kernel) rfl), (aw_m4 177 (by decide +kernel) rfl)⟩
theorem mx_X2_79 : Cond.methodLink RX2 79 Lib.Math.max.name ∈ AW ∧ Cond.static Lib.Math.max.name ∈ AW ∧ Cond.initialized "java/lang/Math" ∈ AW ∧ Cond.code Lib.Math.max.name Lib.Math.max.code 2 (some .int) ∈ AW := ⟨(aw_m4 178 (by decide +kernel) rfl), (aw_m1 33 (by decide +kernel) rfl), (aw_m1 3 (by decide +kernel) rfl), (aw_m1 34 (by decide +kernel) rfl)⟩
theorem mx_X5_75 : Cond.methodLink RX5 75 Lib.Math.max.name ∈ AW ∧ Cond.static Lib.Math.max.name ∈ AW ∧ Cond.initialized "java/lang/Math" ∈ AW ∧ Cond.code Lib.Math.max.name Lib.Math.max.code 2 (some .int) ∈ AW := ⟨(aw_m4 80 (by decide +kernel) rfl), (aw_m1 33 (by decide +kernel) rfl), (aw_m1 3 (by decide +kernel) rfl), (aw_m1 34 (by decide +kernel) rfl)⟩
theorem mx_X6_67 : Cond.methodLink RX6 67 Lib.Math.max.name ∈ AW ∧ Cond.static Lib.Math.max.name ∈ AW ∧ Cond.initialized "java/lang/Math" ∈ AW ∧ Cond.code Lib.Math.max.name Lib.Math.max.code 2 (some .int) ∈ AW := ⟨(aw_m5 55 (by decide +kernel) rfl), (aw_m1 33 (by decide +kernel) rfl), (aw_m1 3 (by decide +kernel) rfl), (aw_m1 34 (by decide +kernel) rfl)⟩
theorem mx_X7_86 : Cond.methodLink RX7 86 Lib.Math.max.name ∈ AW ∧ Cond.static Lib.Math.max.name ∈ AW ∧ Cond.initialized "java/lang/Math" ∈ AW ∧ Cond.code Lib.Math.max.name Lib.Math.max.code 2 (some .int) ∈ AW := ⟨(aw_m5 3 (by decide +kernel) rfl), (aw_m1 33 (by decide +kernel) rfl), (aw_m1 3 (by decide +kernel) rfl), (aw_m1 34 (by decide +kernel) rfl)⟩
